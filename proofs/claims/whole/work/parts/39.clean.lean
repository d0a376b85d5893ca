/-! a clean home, and that each change keeps it clean -/
def cin (E : Nat → Nat) (n b : Nat) : Nat := sm (fun k => if inE (E k) b = true then 1 else 0) n
def cov (E : Nat → Nat → Nat) (b : Nat) : Nat := sm (fun s => cin (E s) 4 b) 6
def Cln (f : Nat → Int32) (N O L R Q : Nat → Nat) (E : Nat → Nat → Nat) : Prop :=
  (∀ s, s < 6 → Slo f s (N s) (O s) (L s) (R s) (E s)) ∧ (∀ s, s < 6 → ∀ t, t < s → N s ≠ 0 → N s ≠ N t) ∧ (∀ b, b < 32 → cov E b ≤ 1) ∧
  (∀ s, s < 6 → (L s + 1) / 2 ≤ pre (E s) 4 ∧ ∀ i, i + 1 = R s → pre (E s) i < (L s + 1) / 2) ∧ (∀ b, b < 32 → bt (f 45) b = decide (cov E b ≠ 0)) ∧
  (∀ o, o ≤ 2 → f (42 + o) = nI (Q o) ∧ Q o ≤ 32 ∧ usg O E o ≤ Q o) ∧ (∀ w, w < 64 → (∃ s, s < 6 ∧ ∃ p, p < L s ∧ idx (E s) 4 0 p = some w) ∨ f (46 + w) = 0)
def Cl (f : Nat → Int32) : Prop := ∃ N O L R Q E, Cln f N O L R Q E
theorem sm_le2 {g h : Nat → Nat} : ∀ {n : Nat}, (∀ k, k < n → g k ≤ h k) → sm g n ≤ sm h n
  | 0, _ => Nat.le_refl _
  | n + 1, e => by
    have h1 := sm_le2 (n := n) (fun k hk => e k (by omega))
    have h2 := e n (by omega)
    rw [sm, sm]; omega
theorem cov_two {E : Nat → Nat → Nat} {b s t j k : Nat} (hs : s < 6) (ht : t < 6) (hj : j < 4) (hk : k < 4) (h1 : inE (E s j) b = true) (h2 : inE (E t k) b = true) (h : cov E b ≤ 1) : s = t ∧ j = k := by
  have g1 : ∀ {s j : Nat}, j < 4 → inE (E s j) b = true → 1 ≤ cin (E s) 4 b := by
    intro s j hj h1
    have := sm_part (g := fun k => if inE (E s k) b = true then 1 else 0) hj
    rw [if_pos h1] at this
    exact this
  have e : s = t := by
    rcases Nat.lt_trichotomy s t with q | q | q
    · have := sm_two (g := fun s => cin (E s) 4 b) q ht
      have := g1 hj h1; have := g1 hk h2
      unfold cov at h; omega
    · exact q
    · have := sm_two (g := fun s => cin (E s) 4 b) q hs
      have := g1 hj h1; have := g1 hk h2
      unfold cov at h; omega
  subst e
  refine ⟨rfl, ?_⟩
  have hp := sm_part (g := fun s => cin (E s) 4 b) hs
  rcases Nat.lt_trichotomy j k with q | q | q
  · have := sm_two (g := fun k => if inE (E s k) b = true then 1 else 0) q hk
    rw [if_pos h1, if_pos h2] at this
    unfold cov at h; unfold cin at hp h; omega
  · exact q
  · have := sm_two (g := fun k => if inE (E s k) b = true then 1 else 0) q hj
    rw [if_pos h1, if_pos h2] at this
    unfold cov at h; unfold cin at hp h; omega
theorem idx_in {E : Nat → Nat} {p w : Nat} (h : idx E 4 0 p = some w) : ∃ j, j < 4 ∧ inE (E j) (w / 2) = true ∧ p = 2 * pre E j + (w - 2 * stN (E j)) := by
  obtain ⟨j, h1, h2, h3, h4⟩ := idx_iff.mp h
  have h5 : pre E (j + 1) = pre E j + szN (E j) := rfl
  refine ⟨j, h1, ?_, by omega⟩
  unfold inE
  have : E j ≠ 0 := by
    intro q
    rw [q] at h5
    have : szN 0 = 0 := rfl
    omega
  simp only [Bool.and_eq_true, decide_eq_true_eq]
  omega
theorem Cln.loose {f : Nat → Int32} {N O L R Q : Nat → Nat} {E : Nat → Nat → Nat} (h : Cln f N O L R Q E) {s : Nat} (hs : s < 6) : ∀ p w, L s ≤ p → p < 2 * pre (E s) 4 → idx (E s) 4 0 p = some w → f (46 + w) = 0 := by
  obtain ⟨h1, h2, h3, h4, h5, h6, h7⟩ := h
  intro p w p1 p2 p3
  have hw := idx_lt (h1 s hs).2.2.1 p3
  rcases h7 w hw.1 with ⟨t, t1, p', p4, p5⟩ | q
  · obtain ⟨j, j1, j2, j3⟩ := idx_in p3
    obtain ⟨k, k1, k2, k3⟩ := idx_in p5
    obtain ⟨e1, e2⟩ := cov_two hs t1 j1 k1 j2 k2 (h3 (w / 2) (by omega))
    subst e1; subst e2
    omega
  · exact q
theorem usg_eq {O O' : Nat → Nat} {E E' : Nat → Nat → Nat} {o : Nat} (h : ∀ s, s < 6 → (if O' s = o then pre (E' s) 4 else 0) = (if O s = o then pre (E s) 4 else 0)) : usg O' E' o = usg O E o := sm_cong h
theorem usg_mono {O O' : Nat → Nat} {E E' : Nat → Nat → Nat} {o : Nat} (h : ∀ s, s < 6 → (if O' s = o then pre (E' s) 4 else 0) ≤ (if O s = o then pre (E s) 4 else 0)) : usg O' E' o ≤ usg O E o := sm_le2 h
/-- create -/
theorem Cln.create {f : Nat → Int32} {N O L R Q : Nat → Nat} {E : Nat → Nat → Nat} (h : Cln f N O L R Q E) {s n o : Nat} (hs : s < 6) (h0 : N s = 0) (hn : 1 ≤ n) (hn2 : n ≤ 99) (ho : o ≤ 2) (hnew : ∀ t, t < 6 → N t ≠ n) : Cln (upd (upd f (7 * s) (nI n)) (7 * s + 1) (nI o)) (va1 N s n) (va1 O s o) L R Q E := by
  obtain ⟨h1, h2, h3, h4, h5, h6, h7⟩ := h
  refine ⟨fun t ht => ?_, fun t ht u hu hne => ?_, h3, h4, fun b hb => ?_, fun o' ho' => ?_, fun w hw => ?_⟩
  · by_cases c : t = s
    · subst c
      rw [va1_s, va1_s]
      obtain ⟨⟨g1, g2, g3, g4⟩, ⟨g5, g6, g7, g8⟩, g9, g10, g11⟩ := h1 t ht
      refine ⟨⟨?_, ?_, ?_, fun k hk => ?_⟩, ⟨hn2, ho, g7, g8⟩, g9, g10, fun q => absurd q (by omega)⟩
      · rw [q_un (by omega), q_ul]
      · rw [q_ul]
      · rw [q_un (by omega), q_un (by omega), g3]
      · rw [q_un (by omega), q_un (by omega), g4 k hk]
    · rw [va1_n c, va1_n c]
      exact (h1 t ht).same (fun i hi => by rw [q_un (by omega), q_un (by omega)])
  · by_cases c : t = s
    · subst c
      rw [va1_s, va1_n (by omega)]
      exact (hnew u (by omega)).symm
    · rw [va1_n c] at hne ⊢
      by_cases c2 : u = s
      · subst c2; rw [va1_s]; exact hnew t ht
      · rw [va1_n c2]; exact h2 t ht u hu hne
  · rw [q_un (by omega), q_un (by omega)]; exact h5 b hb
  · rw [q_un (by omega), q_un (by omega)]
    obtain ⟨g1, g2, g3⟩ := h6 o' ho'
    refine ⟨g1, g2, ?_⟩
    rw [usg_eq (O := O) (E := E) (fun t ht => ?_)]
    · exact g3
    · by_cases c : t = s
      · subst c
        rw [(h1 t ht).pre0 h0, ite_self, ite_self]
      · rw [va1_n c]
  · rw [q_un (by omega), q_un (by omega)]; exact h7 w hw
/-- a new name -/
theorem Cln.rename {f : Nat → Int32} {N O L R Q : Nat → Nat} {E : Nat → Nat → Nat} (h : Cln f N O L R Q E) {s n : Nat} (hs : s < 6) (h0 : N s ≠ 0) (hn : 1 ≤ n) (hn2 : n ≤ 99) (hnew : ∀ t, t < 6 → t ≠ s → N t ≠ n) : Cln (upd f (7 * s) (nI n)) (va1 N s n) O L R Q E := by
  obtain ⟨h1, h2, h3, h4, h5, h6, h7⟩ := h
  refine ⟨fun t ht => ?_, fun t ht u hu hne => ?_, h3, h4, fun b hb => ?_, fun o' ho' => ?_, fun w hw => ?_⟩
  · by_cases c : t = s
    · subst c
      rw [va1_s]
      obtain ⟨⟨g1, g2, g3, g4⟩, ⟨g5, g6, g7, g8⟩, g9, g10, g11⟩ := h1 t ht
      refine ⟨⟨?_, ?_, ?_, fun k hk => ?_⟩, ⟨hn2, g6, g7, g8⟩, g9, g10, fun q => absurd q (by omega)⟩
      · rw [q_ul]
      · rw [q_un (by omega), g2]
      · rw [q_un (by omega), g3]
      · rw [q_un (by omega), g4 k hk]
    · rw [va1_n c]
      exact (h1 t ht).same (fun i hi => by rw [q_un (by omega)])
  · by_cases c : t = s
    · subst c
      rw [va1_s, va1_n (by omega)]
      exact (hnew u (by omega) (by omega)).symm
    · rw [va1_n c] at hne ⊢
      by_cases c2 : u = s
      · subst c2; rw [va1_s]; exact hnew t ht c
      · rw [va1_n c2]; exact h2 t ht u hu hne
  · rw [q_un (by omega)]; exact h5 b hb
  · rw [q_un (by omega)]; exact h6 o' ho'
  · rw [q_un (by omega)]; exact h7 w hw
/-- a new quota -/
theorem Cln.quota {f : Nat → Int32} {N O L R Q : Nat → Nat} {E : Nat → Nat → Nat} (h : Cln f N O L R Q E) {o q : Nat} (ho : o ≤ 2) (hq : q ≤ 32) (hu : usg O E o ≤ q) : Cln (upd f (42 + o) (nI q)) N O L R (va1 Q o q) E := by
  obtain ⟨h1, h2, h3, h4, h5, h6, h7⟩ := h
  refine ⟨fun t ht => ?_, h2, h3, h4, fun b hb => ?_, fun o' ho' => ?_, fun w hw => ?_⟩
  · exact (h1 t ht).same (fun i hi => by rw [q_un (by omega)])
  · rw [q_un (by omega)]; exact h5 b hb
  · by_cases c : o' = o
    · subst c; rw [q_ul, va1_s]; exact ⟨rfl, hq, hu⟩
    · rw [q_un (by omega), va1_n c]; exact h6 o' ho'
  · rw [q_un (by omega)]; exact h7 w hw
/-- a word of a file -/
theorem Cln.word {f : Nat → Int32} {N O L R Q : Nat → Nat} {E : Nat → Nat → Nat} (h : Cln f N O L R Q E) {s p w : Nat} {x : Int32} (hs : s < 6) (hp : p < L s) (hw : idx (E s) 4 0 p = some w) : Cln (upd f (46 + w) x) N O L R Q E := by
  obtain ⟨h1, h2, h3, h4, h5, h6, h7⟩ := h
  refine ⟨fun t ht => ?_, h2, h3, h4, fun b hb => ?_, fun o' ho' => ?_, fun w' hw' => ?_⟩
  · exact (h1 t ht).same (fun i hi => by rw [q_un (by omega)])
  · rw [q_un (by omega)]; exact h5 b hb
  · rw [q_un (by omega)]; exact h6 o' ho'
  · by_cases c : w' = w
    · subst c; exact Or.inl ⟨s, hs, p, hp, hw⟩
    · rw [q_un (by omega)]; exact h7 w' hw'
theorem exL_sm {E : Nat → Nat} {r : Nat} {L : List Nat} {h : Nat → Nat} (h0 : h 0 = 0) (hr : r + L.length ≤ 4) (hz : ∀ k, k < 4 → (E k ≠ 0 ↔ k < r)) : sm (fun k => h (exL E r L k)) 4 = sm (fun k => h (E k)) 4 + sm (fun i => h (L.getD i 0)) L.length := by
  have a0 : ∀ d, r + d ≤ 4 → sm (fun k => h (E k)) (r + d) = sm (fun k => h (E k)) r := by
    intro d
    induction d with
    | zero => intro _; rfl
    | succ d ih =>
      intro h9
      have h1 := ih (by omega)
      have h2 := hz (r + d) (by omega)
      have : E (r + d) = 0 := by
        rcases Nat.eq_zero_or_pos (E (r + d)) with q | q
        · exact q
        · have := h2.mp (by omega); omega
      show sm _ (r + d) + h (E (r + d)) = _
      rw [this, h1, h0]; rfl
  have a1 : ∀ d, r + d ≤ 4 → sm (fun k => h (exL E r L k)) (r + d) = sm (fun k => h (E k)) r + sm (fun i => h (L.getD i 0)) d := by
    intro d
    induction d with
    | zero =>
      intro _
      show sm _ r = sm _ r + 0
      exact sm_cong (fun k hk => by show h (exL E r L k) = _; unfold exL; rw [if_pos hk])
    | succ d ih =>
      intro h9
      show sm _ (r + d) + h (exL E r L (r + d)) = _ + (_ + _)
      rw [ih (by omega)]
      have : exL E r L (r + d) = L.getD d 0 := by
        unfold exL; rw [if_neg (by omega), show r + d - r = d by omega]
      rw [this, Nat.add_assoc]
  have a2 : ∀ d, L.length + d ≤ 4 → sm (fun i => h (L.getD i 0)) (L.length + d) = sm (fun i => h (L.getD i 0)) L.length := by
    intro d
    induction d with
    | zero => intro _; rfl
    | succ d ih =>
      intro h9
      show sm _ (L.length + d) + h (L.getD (L.length + d) 0) = _
      rw [ih (by omega), List.getD_eq_getElem?_getD, List.getElem?_eq_none (by omega)]
      show _ + h 0 = _
      rw [h0]; rfl
  have b1 := a1 (4 - r) (by omega)
  have b2 := a0 (4 - r) (by omega)
  have b3 := a2 (4 - r - L.length) (by omega)
  rw [show r + (4 - r) = 4 by omega] at b1 b2
  rw [show L.length + (4 - r - L.length) = 4 - r by omega] at b3
  rw [b1, b2, b3]
def cl1 (L : List Nat) (b : Nat) : Nat := sm (fun i => if inE (L.getD i 0) b = true then 1 else 0) L.length
theorem cl1_cons {e : Nat} {L : List Nat} {b : Nat} : cl1 (e :: L) b = (if inE e b = true then 1 else 0) + cl1 L b := by
  unfold cl1
  rw [List.length_cons, sm_head]
  rfl
theorem gro_cov : ∀ {k : Nat} {m : Int32} {bl nd : Nat} {c : Nat → Nat}, (∀ b, b < 32 → c b ≤ 1 ∧ bt m b = decide (c b ≠ 0)) → ∀ b, b < 32 → c b + cl1 (gro k m bl nd).2.1 b ≤ 1 ∧ bt (gro k m bl nd).1 b = decide (c b + cl1 (gro k m bl nd).2.1 b ≠ 0)
  | 0, m, bl, nd, c, h, b, hb => h b hb
  | k + 1, m, bl, nd, c, h, b, hb => by
    rw [gro]
    by_cases q : nd ≤ bl
    · rw [if_pos q]; exact h b hb
    · rw [if_neg q]
      cases hc : chs m (ordN (nd - bl) + 1) with
      | none => exact h b hb
      | some br =>
        obtain ⟨b0, r⟩ := br
        have h1 := chs_ok (by have := ordN_lt (nd - bl); omega) hc
        have h2 := r_cell b0 h1.2.2.1 r h1.2.1 h1.2.2.2.1
        have hin : ∀ x, x < 32 → inE (1 + b0 + 32 * r) x = true → bt m x = false := by
          intro x hx hi
          unfold inE at hi
          simp only [Bool.and_eq_true, decide_eq_true_eq] at hi
          rw [h2.2.1, h2.2.2.1] at hi
          have := h1.2.2.2.2 (x - b0) (by omega)
          rw [show b0 + (x - b0) = x by omega] at this
          exact this
        have ih := gro_cov (k := k) (m := m ||| mbE (1 + b0 + 32 * r)) (bl := bl + 2 ^ r) (nd := nd) (c := fun x => c x + if inE (1 + b0 + 32 * r) x = true then 1 else 0)
          (by
            intro x hx
            obtain ⟨g1, g2⟩ := h x hx
            by_cases ci : inE (1 + b0 + 32 * r) x = true
            · have g3 := hin x hx ci
              rw [g3] at g2
              have g4 : c x = 0 := by
                rcases Nat.eq_zero_or_pos (c x) with z | z
                · exact z
                · rw [decide_eq_true (by omega)] at g2; cases g2
              refine ⟨by show c x + _ ≤ 1; rw [if_pos ci, g4]; exact Nat.le_refl _, ?_⟩
              rw [b_or, r_bit _ (ok_lt h2.1) h2.1 x hx, ci, Bool.or_true]
              show true = decide (c x + 1 ≠ 0)
              exact (decide_eq_true (by omega)).symm
            · refine ⟨by show c x + _ ≤ 1; rw [if_neg ci]; exact g1, ?_⟩
              rw [b_or, r_bit _ (ok_lt h2.1) h2.1 x hx]
              rw [Bool.not_eq_true] at ci
              rw [ci, Bool.or_false, g2]
              show _ = decide (c x + (if false = true then 1 else 0) ≠ 0)
              rfl) b hb
        show c b + cl1 ((1 + b0 + 32 * r) :: (gro k (m ||| mbE (1 + b0 + 32 * r)) (bl + 2 ^ r) nd).2.1) b ≤ 1 ∧ bt (gro k (m ||| mbE (1 + b0 + 32 * r)) (bl + 2 ^ r) nd).1 b = decide (c b + cl1 ((1 + b0 + 32 * r) :: (gro k (m ||| mbE (1 + b0 + 32 * r)) (bl + 2 ^ r) nd).2.1) b ≠ 0)
        rw [cl1_cons, ← Nat.add_assoc]
        exact ih
theorem gro_last : ∀ {k : Nat} {m : Int32} {bl nd i : Nat}, i < (gro k m bl nd).2.1.length → bl + sm (fun j => szN ((gro k m bl nd).2.1.getD j 0)) i < nd
  | 0, m, bl, nd, i, h => absurd h (Nat.not_lt_zero _)
  | k + 1, m, bl, nd, i, h => by
    rw [gro] at h ⊢
    by_cases q : nd ≤ bl
    · rw [if_pos q] at h; exact absurd h (Nat.not_lt_zero _)
    · rw [if_neg q] at h ⊢
      cases hc : chs m (ordN (nd - bl) + 1) with
      | none => rw [hc] at h; exact absurd h (Nat.not_lt_zero _)
      | some br =>
        obtain ⟨b0, r⟩ := br
        rw [hc] at h
        have h1 := chs_ok (by have := ordN_lt (nd - bl); omega) hc
        have h2 := r_cell b0 h1.2.2.1 r h1.2.1 h1.2.2.2.1
        cases i with
        | zero => show bl + 0 < nd; omega
        | succ i =>
          have ih := gro_last (k := k) (m := m ||| mbE (1 + b0 + 32 * r)) (bl := bl + 2 ^ r) (nd := nd) (i := i) (Nat.lt_of_succ_lt_succ h)
          show bl + sm (fun j => szN (((1 + b0 + 32 * r) :: (gro k (m ||| mbE (1 + b0 + 32 * r)) (bl + 2 ^ r) nd).2.1).getD j 0)) (i + 1) < nd
          rw [sm_head]
          show bl + (szN (1 + b0 + 32 * r) + sm (fun j => szN ((gro k (m ||| mbE (1 + b0 + 32 * r)) (bl + 2 ^ r) nd).2.1.getD j 0)) i) < nd
          rw [h2.2.1]
          omega

theorem cin_nil {E : Nat → Nat} {r b : Nat} (hr : r ≤ 4) (hz : ∀ k, k < 4 → (E k ≠ 0 ↔ k < r)) : cin E 4 b = cin E r b := by
  have h0 : ∀ d, r + d ≤ 4 → cin E (r + d) b = cin E r b := by
    intro d
    induction d with
    | zero => intro _; rfl
    | succ d ih =>
      intro h
      have h1 := ih (by omega)
      have h2 := hz (r + d) (by omega)
      have : E (r + d) = 0 := by
        rcases Nat.eq_zero_or_pos (E (r + d)) with q | q
        · exact q
        · have := h2.mp (by omega); omega
      show cin E (r + d) b + (if inE (E (r + d)) b = true then 1 else 0) = _
      rw [this, h1]; rfl
  have := h0 (4 - r) (by omega)
  rw [show r + (4 - r) = 4 by omega] at this
  exact this
theorem cov_va1 {E : Nat → Nat → Nat} {s b : Nat} {E' : Nat → Nat} (hs : s < 6) : cov (va1 E s E') b + cin (E s) 4 b = cov E b + cin E' 4 b := by
  have h := sm_upd (g := fun t => cin (E t) 4 b) (v := cin E' 4 b) (i := s) (n := 6) hs
  have e : (fun k => if k = s then cin E' 4 b else cin (E k) 4 b) = (fun t => cin (va1 E s E' t) 4 b) := by
    funext t
    by_cases c : t = s
    · subst c; rw [if_pos rfl, va1_s]
    · rw [if_neg c, va1_n c]
  rw [e] at h
  exact h
theorem b_clr {m : Int32} {e b : Nat} (he : okE e = true) (hb : b < 32) : bt (clr m e) b = (bt m b && !(inE e b)) := by
  unfold clr
  rw [b_and, b_xor, b_m1 b hb, r_bit e (ok_lt he) he b hb, Bool.xor_true]
/-- the map when runs are given back; c0: the blocks in the runs of others -/
theorem gbk_cov {E : Nat → Nat} {nd : Nat} {c0 : Nat → Nat} (hO : ∀ k, k < 4 → okE (E k) = true) : ∀ {k : Nat} {m : Int32}, k ≤ 4 → (∀ b, b < 32 → c0 b + cin E k b ≤ 1 ∧ bt m b = decide (c0 b + cin E k b ≠ 0)) → ∀ b, b < 32 → c0 b + cin E (gbk E nd k m).1 b ≤ 1 ∧ bt (gbk E nd k m).2 b = decide (c0 b + cin E (gbk E nd k m).1 b ≠ 0)
  | 0, m, _, h, b, hb => h b hb
  | k + 1, m, hk, h, b, hb => by
    rw [gbk]
    by_cases c : nd ≤ pre E k
    · rw [if_pos c]
      refine gbk_cov (k := k) hO (by omega) (fun x hx => ?_) b hb
      obtain ⟨g1, g2⟩ := h x hx
      have e : cin E (k + 1) x = cin E k x + (if inE (E k) x = true then 1 else 0) := rfl
      rw [e] at g1 g2
      rw [b_clr (hO k (by omega)) hx]
      by_cases ci : inE (E k) x = true
      · rw [if_pos ci] at g1
        refine ⟨by omega, ?_⟩
        rw [ci, Bool.not_true, Bool.and_false]
        exact (decide_eq_false (by omega)).symm
      · rw [if_neg ci] at g1 g2
        refine ⟨by omega, ?_⟩
        rw [Bool.not_eq_true] at ci
        rw [ci, Bool.not_false, Bool.and_true, g2]
        rfl
    · rw [if_neg c]; exact h b hb
theorem Cln.ne {f : Nat → Int32} {N O L R Q : Nat → Nat} {E : Nat → Nat → Nat} (h : Cln f N O L R Q E) {s : Nat} (hs : s < 6) : (R s ≤ 4) ∧ (∀ k, k < 4 → (E s k ≠ 0 ↔ k < R s)) ∧ (∀ k, k < 4 → okE (E s k) = true) := ⟨(h.1 s hs).2.1.2.2.2, (h.1 s hs).2.2.2.1, (h.1 s hs).2.2.1⟩
/-- growing -/
theorem Cln.grow {f : Nat → Int32} {N O L R Q : Nat → Nat} {E : Nat → Nat → Nat} (h : Cln f N O L R Q E) {s len : Nat} (hs : s < 6) (hN : N s ≠ 0) (hl : L s < len) (hl2 : len ≤ 64)
    (h9 : ¬ (gro (4 - R s) (f 45) (pre (E s) 4) ((len + 1) / 2)).2.2 < (len + 1) / 2) (h10 : ¬ Q (O s) < usg O E (O s) - pre (E s) 4 + (gro (4 - R s) (f 45) (pre (E s) 4) ((len + 1) / 2)).2.2) :
    ∃ L' R' E', L' s = len ∧ Cln (growR f s len (R s) (pre (E s) 4) (usg O E (O s)) (Q (O s))).2 N O L' R' Q E' := by
  unfold growR
  rw [if_neg h9, if_neg h10]
  dsimp only
  have hge := usg_ge (O := O) (E := E) hs
  obtain ⟨hr, hz, hok⟩ := h.ne hs
  have hg := gro_ok (k := 4 - R s) (m := f 45) (bl := pre (E s) 4) (nd := (len + 1) / 2)
  have hg2 := gro_sum (k := 4 - R s) (m := f 45) (bl := pre (E s) 4) (nd := (len + 1) / 2)
  have hg3 := fun (i : Nat) => gro_last (k := 4 - R s) (m := f 45) (bl := pre (E s) 4) (nd := (len + 1) / 2) (i := i)
  obtain ⟨h1, h2, h3, h4, h5, h6, h7⟩ := h
  have hg4 := gro_cov (k := 4 - R s) (m := f 45) (bl := pre (E s) 4) (nd := (len + 1) / 2) (c := cov E) (fun b hb => ⟨h3 b hb, h5 b hb⟩)
  generalize gro (4 - R s) (f 45) (pre (E s) 4) ((len + 1) / 2) = g at *
  have hx := exL_pre (E := E s) (r := R s) (L := g.2.1) (by omega) hz
  have hpr := pre_r hr hz
  have hcv : ∀ b, cov (va1 E s (exL (E s) (R s) g.2.1)) b = cov E b + cl1 g.2.1 b := by
    intro b
    have a1 := cov_va1 (E := E) (s := s) (b := b) (E' := exL (E s) (R s) g.2.1) hs
    have a2 := exL_sm (E := E s) (r := R s) (L := g.2.1) (h := fun e => if inE e b = true then 1 else 0) rfl (by omega) hz
    unfold cin at a1
    unfold cl1
    omega
  have hpre : ∀ i, R s + i ≤ R s + g.2.1.length → pre (exL (E s) (R s) g.2.1) (R s + i) = pre (E s) 4 + sm (fun j => szN (g.2.1.getD j 0)) i := by
    intro i
    induction i with
    | zero =>
      intro _
      rw [hpr]
      show pre _ (R s) = pre (E s) (R s) + 0
      exact sm_cong (fun k hk => by show szN (exL (E s) (R s) g.2.1 k) = _; unfold exL; rw [if_pos hk])
    | succ i ih =>
      intro hi
      show pre _ (R s + i) + szN (exL (E s) (R s) g.2.1 (R s + i)) = _ + (_ + _)
      rw [ih (by omega)]
      have : exL (E s) (R s) g.2.1 (R s + i) = g.2.1.getD i 0 := by
        unfold exL; rw [if_neg (by omega), show R s + i - R s = i by omega]
      rw [this, Nat.add_assoc]
  refine ⟨va1 L s len, va1 R s (R s + g.2.1.length), va1 E s (exL (E s) (R s) g.2.1), va1_s, fun t ht => ?_, h2, fun b hb => ?_, fun t ht => ?_, fun b hb => ?_, fun o ho => ?_, fun w hw => ?_⟩
  · by_cases c : t = s
    · subst c
      rw [va1_s, va1_s, va1_s]
      obtain ⟨⟨g1, g2, g3, g4⟩, ⟨g5, g6, g7, g8⟩, g9⟩ := (h1 t ht).grow (m := g.1) hs hN (by omega) hg.2.1
      refine ⟨⟨?_, ?_, ?_, fun k hk => ?_⟩, ⟨g5, g6, hl2, g8⟩, g9.1, g9.2.1, fun q => absurd q hN⟩
      · rw [q_un (by omega)]; exact g1
      · rw [q_un (by omega)]; exact g2
      · exact q_ul
      · rw [q_un (by omega)]; exact g4 k hk
    · rw [va1_n c, va1_n c, va1_n c]
      refine (h1 t ht).same (fun i hi => ?_)
      rw [q_un (by omega), q_un (by omega), putL_at, if_neg (by omega)]
  · rw [hcv]; exact (hg4 b hb).1
  · by_cases c : t = s
    · subst c
      rw [va1_s, va1_s, va1_s]
      refine ⟨by rw [hx]; omega, fun i hi => ?_⟩
      cases hlen : g.2.1.length with
      | zero =>
        rw [hlen] at hi
        have := (h4 t ht).2 i (by omega)
        have e : pre (exL (E t) (R t) g.2.1) i = pre (E t) i := sm_cong (fun k hk => by show szN (exL (E t) (R t) g.2.1 k) = _; unfold exL; rw [if_pos (by omega)])
        rw [e]; omega
      | succ d =>
        rw [hlen] at hi
        rw [show i = R t + d by omega, hpre d (by omega)]
        exact hg3 d (by omega)
    · rw [va1_n c, va1_n c, va1_n c]; exact h4 t ht
  · rw [hcv, q_un (by omega), q_ul]; exact (hg4 b hb).2
  · obtain ⟨g1, g2, g3⟩ := h6 o ho
    rw [q_un (by omega), q_un (by omega), putL_at, if_neg (by omega)]
    refine ⟨g1, g2, ?_⟩
    by_cases c : O s = o
    · subst c
      have hu := usg_va1 (O := O) (E := E) (s := s) (E' := exL (E s) (R s) g.2.1) hs
      omega
    · rw [usg_eq (O := O) (E := E) (fun t ht => ?_)]
      · exact g3
      · by_cases c2 : t = s
        · subst c2; rw [if_neg c, if_neg c]
        · rw [va1_n c2]
  · have e : upd (upd (putL f (7 * s + 3 + R s) g.2.1) 45 g.1) (7 * s + 2) (nI len) (46 + w) = f (46 + w) := by
      rw [q_un (by omega), q_un (by omega), putL_at, if_neg (by omega)]
    rw [e]
    rcases h7 w hw with ⟨t, t1, p, p1, p2⟩ | q
    · refine Or.inl ⟨t, t1, p, ?_, ?_⟩
      · by_cases c : t = s
        · subst c; rw [va1_s]; omega
        · rw [va1_n c]; exact p1
      · by_cases c : t = s
        · subst c
          rw [va1_s]
          obtain ⟨j, j1, j2, j3, j4⟩ := idx_iff.mp p2
          have hj : j < R t := by
            rcases Nat.lt_or_ge j (R t) with z | z
            · exact z
            · have a1 : pre (E t) (R t) ≤ pre (E t) j := sm_mono z
              have := (h4 t t1).1
              omega
          have a2 : ∀ i, i ≤ R t → pre (exL (E t) (R t) g.2.1) i = pre (E t) i := fun i hi => sm_cong (fun k hk => by show szN (exL (E t) (R t) g.2.1 k) = _; unfold exL; rw [if_pos (by omega)])
          refine idx_iff.mpr ⟨j, j1, ?_, ?_, ?_⟩
          · rw [a2 j (by omega)]; exact j2
          · rw [a2 (j + 1) (by omega)]; exact j3
          · have : exL (E t) (R t) g.2.1 j = E t j := if_pos hj
            rw [a2 j (by omega), this]; exact j4
        · rw [va1_n c]; exact p2
    · exact Or.inr q
