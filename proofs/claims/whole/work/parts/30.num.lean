/-! numbers, arrays and loops of the pure copies -/
theorem q_lit (n : Nat) : (OfNat.ofNat n : Int32) = nI n := rfl
theorem q_c0 : (0 : Int32) = nI 0 := rfl
theorem q_c1 : (1 : Int32) = nI 1 := rfl
theorem q_c2 : (2 : Int32) = nI 2 := rfl
theorem q_c3 : (3 : Int32) = nI 3 := rfl
theorem q_c4 : (4 : Int32) = nI 4 := rfl
theorem q_c5 : (5 : Int32) = nI 5 := rfl
theorem q_c6 : (6 : Int32) = nI 6 := rfl
theorem q_c7 : (7 : Int32) = nI 7 := rfl
theorem q_c31 : (31 : Int32) = nI 31 := rfl
theorem q_c32 : (32 : Int32) = nI 32 := rfl
theorem q_c42 : (42 : Int32) = nI 42 := rfl
theorem q_c44 : (44 : Int32) = nI 44 := rfl
theorem q_c45 : (45 : Int32) = nI 45 := rfl
theorem q_c46 : (46 : Int32) = nI 46 := rfl
theorem q_c63 : (63 : Int32) = nI 63 := rfl
theorem q_c64 : (64 : Int32) = nI 64 := rfl
theorem q_c99 : (99 : Int32) = nI 99 := rfl
theorem q_c109 : (109 : Int32) = nI 109 := rfl
theorem q_c110 : (110 : Int32) = nI 110 := rfl
theorem q_c111 : (111 : Int32) = nI 111 := rfl
theorem q_c112 : (112 : Int32) = nI 112 := rfl
theorem q_c113 : (113 : Int32) = nI 113 := rfl
theorem q_c192 : (192 : Int32) = nI 192 := rfl
theorem q_c331 : (331 : Int32) = nI 331 := rfl
theorem q_c332 : (332 : Int32) = nI 332 := rfl
theorem q_ald {n j : Nat} {f : Nat → Int32} (h : j < n) (hn : n ≤ 1000) : g_ald n f (nI j) = some (f j) := by
  have h1 : vp_in (nI j) n := vp_in_nI h (by omega)
  exact (if_pos h1).trans (by rw [nI_clamp (by omega)])
theorem q_ast {n j : Nat} {f : Nat → Int32} {x : Int32} (h : j < n) (hn : n ≤ 1000) : g_ast n f (nI j) x = some (upd f j x) := by
  have h1 : vp_in (nI j) n := vp_in_nI h (by omega)
  exact (if_pos h1).trans (by rw [nI_clamp (by omega)])
theorem q_inl {S R : Type} {st : S → Option (S ⊕ R)} {n : Nat} {s s' : S} (h : st s = some (.inl s')) : g_loop st (n + 1) s = g_loop st n s' := by
  rw [g_loop, h]
theorem q_inr {S R : Type} {st : S → Option (S ⊕ R)} {n : Nat} {s : S} {r : R} (h : st s = some (.inr r)) : g_loop st (n + 1) s = some r := by
  rw [g_loop, h]
/-- a loop that counts up from i to e, and may hand something back before -/
theorem q_for {S R σ : Type} {st : S → Option (S ⊕ R)} (mk : Nat → σ → S) (e : Nat) (I : Nat → σ → Prop) (P : R → Prop)
    (hs : ∀ i a, i < e → I i a → (∃ a', st (mk i a) = some (.inl (mk (i + 1) a')) ∧ I (i + 1) a') ∨ ∃ r, st (mk i a) = some (.inr r) ∧ P r)
    (hx : ∀ a, I e a → ∃ r, st (mk e a) = some (.inr r) ∧ P r) :
    ∀ (d i : Nat) (a : σ) (N : Nat), i + d = e → I i a → d < N → ∃ r, g_loop st N (mk i a) = some r ∧ P r := by
  intro d
  induction d with
  | zero =>
    intro i a N h1 h2 h3
    have h1 : i = e := by omega
    subst h1
    obtain ⟨N, rfl⟩ : ∃ k, N = k + 1 := ⟨N - 1, by omega⟩
    obtain ⟨r, h4, h5⟩ := hx a h2
    exact ⟨r, q_inr h4, h5⟩
  | succ d ih =>
    intro i a N h1 h2 h3
    obtain ⟨N, rfl⟩ : ∃ k, N = k + 1 := ⟨N - 1, by omega⟩
    rcases hs i a (by omega) h2 with ⟨a', h4, h5⟩ | ⟨r, h4, h5⟩
    · rw [q_inl h4]
      exact ih (i + 1) a' N (by omega) h5 (by omega)
    · exact ⟨r, q_inr h4, h5⟩
/-- a loop with a measure -/
theorem q_wh {S R : Type} {st : S → Option (S ⊕ R)} (I : S → Prop) (mu : S → Nat) (P : R → Prop)
    (h : ∀ s, I s → (∃ s', st s = some (.inl s') ∧ I s' ∧ mu s' < mu s) ∨ ∃ r, st s = some (.inr r) ∧ P r) :
    ∀ (N : Nat) (s : S), I s → mu s < N → ∃ r, g_loop st N s = some r ∧ P r := by
  intro N
  induction N with
  | zero => intro s _ h2; exact absurd h2 (Nat.not_lt_zero _)
  | succ N ih =>
    intro s h1 h2
    rcases h s h1 with ⟨s', h3, h4, h5⟩ | ⟨r, h3, h4⟩
    · rw [q_inl h3]
      exact ih s' h4 (by omega)
    · exact ⟨r, q_inr h3, h4⟩
theorem q_some {α : Type} {o : Option α} {P : α → Prop} (h : ∃ r, o = some r ∧ P r) {a : α} (hP : ∀ r, P r → r = a) : o = some a := by
  obtain ⟨r, h1, h2⟩ := h
  rw [h1, hP r h2]
theorem q_ul {f : Nat → Int32} {k : Nat} {x : Int32} : upd f k x k = x := pk_us
theorem q_un {f : Nat → Int32} {k j : Nat} {x : Int32} (h : j ≠ k) : upd f k x j = f j := pk_un h
theorem q_le {a b : Nat} (ha : a < 2 ^ 31) (hb : b < 2 ^ 31) : (nI a ≤ nI b) = (a ≤ b) := propext (nI_leI ha hb)
theorem q_lt {a b : Nat} (ha : a < 2 ^ 31) (hb : b < 2 ^ 31) : (nI a < nI b) = (a < b) := propext (nI_ltI ha hb)
theorem q_eq {a b : Nat} (ha : a < 2 ^ 31) (hb : b < 2 ^ 31) : (nI a = nI b) = (a = b) := propext (nI_eq ha hb)
theorem fa_lt (a b : Int32) : a < b ↔ a.toInt < b.toInt := Int32.lt_iff_toInt_lt
theorem fa_le (a b : Int32) : a ≤ b ↔ a.toInt ≤ b.toInt := Int32.le_iff_toInt_le
theorem fa_eq (a b : Int32) : a = b ↔ a.toInt = b.toInt := Int32.toInt_inj.symm
/-- an int between two small numbers is a small number -/
theorem q_rng {x : Int32} {n : Nat} (hn : n < 2 ^ 31) (h0 : ¬ x < nI 0) (h1 : ¬ nI n < x) : ∃ j, j ≤ n ∧ x = nI j := by
  rw [fa_lt, nI_toInt (by omega)] at h0
  rw [fa_lt, nI_toInt hn] at h1
  refine ⟨x.toInt.toNat, by omega, ?_⟩
  rw [fa_eq, nI_toInt (by omega)]
  omega
theorem q_neg {n : Nat} (h : n < 2 ^ 31) : ¬ nI n < 0 := nI_pos h
theorem i_le {α : Type} {a b : Nat} {x y : α} (h : a ≤ b) (hb : b < 2 ^ 31) : (if nI a ≤ nI b then x else y) = x := if_pos (nI_le h hb)
theorem i_nle {α : Type} {a b : Nat} {x y : α} (h : b < a) (ha : a < 2 ^ 31) : (if nI a ≤ nI b then x else y) = y := if_neg (fun q => absurd ((nI_leI ha (by omega)).mp q) (by omega))
theorem i_lt {α : Type} {a b : Nat} {x y : α} (h : a < b) (hb : b < 2 ^ 31) : (if nI a < nI b then x else y) = x := if_pos (nI_lt h hb)
theorem i_nlt {α : Type} {a b : Nat} {x y : α} (h : b ≤ a) (ha : a < 2 ^ 31) : (if nI a < nI b then x else y) = y := if_neg (nI_nlt h ha)
theorem i_eq {α : Type} {a b : Nat} {x y : α} (h : a = b) : (if nI a = nI b then x else y) = x := if_pos (by rw [h])
theorem i_ne {α : Type} {a b : Nat} {x y : α} (h : a ≠ b) (ha : a < 2 ^ 31) (hb : b < 2 ^ 31) : (if nI a = nI b then x else y) = y := if_neg (fun q => h ((nI_eq ha hb).mp q))
theorem q_k0 {T : Type} {kk : Option T} : (some ()).bind (g_k0 kk) = kk := rfl
theorem q_e0 {T : Type} {kk : T} {u : Unit} : g_k0 kk u = kk := rfl
theorem q_k1 {A T : Type} {kk : A → Option T} {x0 : A} : (some x0).bind (g_k1 kk) = kk x0 := rfl
theorem q_e1 {A T : Type} {kk : A → T} {x0 : A} : g_k1 kk x0 = kk x0 := rfl
theorem q_k2 {A B T : Type} {kk : A → B → Option T} {x0 : A} {x1 : B} : (some (x0, x1)).bind (g_k2 kk) = kk x0 x1 := rfl
theorem q_e2 {A B T : Type} {kk : A → B → T} {x0 : A} {x1 : B} : g_k2 kk (x0, x1) = kk x0 x1 := rfl
theorem q_k3 {A B C T : Type} {kk : A → B → C → Option T} {x0 : A} {x1 : B} {x2 : C} : (some (x0, x1, x2)).bind (g_k3 kk) = kk x0 x1 x2 := rfl
theorem q_e3 {A B C T : Type} {kk : A → B → C → T} {x0 : A} {x1 : B} {x2 : C} : g_k3 kk (x0, x1, x2) = kk x0 x1 x2 := rfl
theorem q_k4 {A B C D T : Type} {kk : A → B → C → D → Option T} {x0 : A} {x1 : B} {x2 : C} {x3 : D} : (some (x0, x1, x2, x3)).bind (g_k4 kk) = kk x0 x1 x2 x3 := rfl
theorem q_e4 {A B C D T : Type} {kk : A → B → C → D → T} {x0 : A} {x1 : B} {x2 : C} {x3 : D} : g_k4 kk (x0, x1, x2, x3) = kk x0 x1 x2 x3 := rfl
theorem q_k5 {A B C D E T : Type} {kk : A → B → C → D → E → Option T} {x0 : A} {x1 : B} {x2 : C} {x3 : D} {x4 : E} : (some (x0, x1, x2, x3, x4)).bind (g_k5 kk) = kk x0 x1 x2 x3 x4 := rfl
theorem q_e5 {A B C D E T : Type} {kk : A → B → C → D → E → T} {x0 : A} {x1 : B} {x2 : C} {x3 : D} {x4 : E} : g_k5 kk (x0, x1, x2, x3, x4) = kk x0 x1 x2 x3 x4 := rfl
theorem q_k6 {A B C D E F T : Type} {kk : A → B → C → D → E → F → Option T} {x0 : A} {x1 : B} {x2 : C} {x3 : D} {x4 : E} {x5 : F} : (some (x0, x1, x2, x3, x4, x5)).bind (g_k6 kk) = kk x0 x1 x2 x3 x4 x5 := rfl
theorem q_e6 {A B C D E F T : Type} {kk : A → B → C → D → E → F → T} {x0 : A} {x1 : B} {x2 : C} {x3 : D} {x4 : E} {x5 : F} : g_k6 kk (x0, x1, x2, x3, x4, x5) = kk x0 x1 x2 x3 x4 x5 := rfl
theorem q_k7 {A B C D E F G T : Type} {kk : A → B → C → D → E → F → G → Option T} {x0 : A} {x1 : B} {x2 : C} {x3 : D} {x4 : E} {x5 : F} {x6 : G} : (some (x0, x1, x2, x3, x4, x5, x6)).bind (g_k7 kk) = kk x0 x1 x2 x3 x4 x5 x6 := rfl
theorem q_e7 {A B C D E F G T : Type} {kk : A → B → C → D → E → F → G → T} {x0 : A} {x1 : B} {x2 : C} {x3 : D} {x4 : E} {x5 : F} {x6 : G} : g_k7 kk (x0, x1, x2, x3, x4, x5, x6) = kk x0 x1 x2 x3 x4 x5 x6 := rfl
theorem q_k8 {A B C D E F G H T : Type} {kk : A → B → C → D → E → F → G → H → Option T} {x0 : A} {x1 : B} {x2 : C} {x3 : D} {x4 : E} {x5 : F} {x6 : G} {x7 : H} : (some (x0, x1, x2, x3, x4, x5, x6, x7)).bind (g_k8 kk) = kk x0 x1 x2 x3 x4 x5 x6 x7 := rfl
theorem q_e8 {A B C D E F G H T : Type} {kk : A → B → C → D → E → F → G → H → T} {x0 : A} {x1 : B} {x2 : C} {x3 : D} {x4 : E} {x5 : F} {x6 : G} {x7 : H} : g_k8 kk (x0, x1, x2, x3, x4, x5, x6, x7) = kk x0 x1 x2 x3 x4 x5 x6 x7 := rfl
theorem q_sl {V S T : Type} {kv : V → Option T} {ks : S → Option T} {v : V} : (some (Sum.inl v)).bind (g_sk kv ks) = kv v := rfl
theorem q_sr {V S T : Type} {kv : V → Option T} {ks : S → Option T} {v : S} : (some (Sum.inr v)).bind (g_sk kv ks) = ks v := rfl
