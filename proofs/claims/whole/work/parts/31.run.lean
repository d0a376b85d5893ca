/-! runs: what an extent cell says -/
def cn (f : Nat → Int32) (j : Nat) : Nat := (f j).toNatClampNeg
def szN (e : Nat) : Nat := if e = 0 then 0 else 2 ^ ((e - 1) / 32)
def stN (e : Nat) : Nat := (e - 1) % 32
def orN (e : Nat) : Nat := (e - 1) / 32
def okE (e : Nat) : Bool := decide (e = 0) || (decide (e ≤ 161) && decide (stN e % szN e = 0))
def inE (e b : Nat) : Bool := decide (e ≠ 0) && (decide (stN e ≤ b) && decide (b < stN e + szN e))
def mbE (e : Nat) : Int32 := if e = 0 then 0 else nI ((2 ^ szN e - 1) * 2 ^ stN e)
def bi (b : Bool) : Int32 := if b then 1 else 0
def bt (x : Int32) (i : Nat) : Bool := x.toBitVec.getLsbD i
theorem b_ext {x y : Int32} (h : ∀ i, i < 32 → bt x i = bt y i) : x = y := Int32.toBitVec_inj.mp (BitVec.eq_of_getLsbD_eq (fun i hi => h i hi))
theorem b_or (x y : Int32) (i : Nat) : bt (x ||| y) i = (bt x i || bt y i) := by unfold bt; rw [Int32.toBitVec_or, BitVec.getLsbD_or]
theorem b_and (x y : Int32) (i : Nat) : bt (x &&& y) i = (bt x i && bt y i) := by unfold bt; rw [Int32.toBitVec_and, BitVec.getLsbD_and]
theorem b_xor (x y : Int32) (i : Nat) : bt (x ^^^ y) i = (bt x i ^^ bt y i) := by unfold bt; rw [Int32.toBitVec_xor, BitVec.getLsbD_xor]
theorem b_m1 : ∀ i, i < 32 → bt (-1) i = true := by decide +kernel
theorem b_0 (i : Nat) : bt 0 i = false := by
  show (0#32).getLsbD i = false
  exact BitVec.getLsbD_zero
theorem b_1 : ∀ i, i < 32 → bt 1 i = decide (i = 0) := by decide +kernel
theorem s_u : ∀ n, n < 32 → (((nI n).toUInt32 &&& Int32.toUInt32 31).toBitVec % 32).toNat = n := by decide +kernel
theorem b_ushr (n : Nat) (hn : n < 32) (x : Int32) (i : Nat) : bt (g_ushr x (nI n)) i = bt x (n + i) := by
  show (x.toUInt32 >>> ((nI n).toUInt32 &&& Int32.toUInt32 31)).toBitVec.getLsbD i = x.toUInt32.toBitVec.getLsbD (n + i)
  rw [UInt32.toBitVec_shiftRight]
  show (x.toUInt32.toBitVec >>> (((nI n).toUInt32 &&& Int32.toUInt32 31).toBitVec % 32).toNat).getLsbD i = _
  rw [s_u n hn, BitVec.getLsbD_ushiftRight]
theorem b_big {x : Int32} {i : Nat} (h : 32 ≤ i) : bt x i = false := BitVec.getLsbD_of_ge _ _ h
/-- a lone bit of a map -/
theorem b_test (x : Int32) (k : Nat) (hk : k < 32) : ((g_ushr x (nI k) &&& (1 : Int32)) = (0 : Int32)) = (bt x k = false) := by
  apply propext
  constructor
  · intro h
    have h0 : bt (g_ushr x (nI k) &&& (1 : Int32)) 0 = bt (0 : Int32) 0 := by rw [h]
    rw [b_and, b_ushr k hk, b_1 0 (by omega), b_0] at h0
    simpa using h0
  · intro h
    apply b_ext
    intro i hi
    rw [b_and, b_ushr k hk, b_1 i hi, b_0]
    by_cases e : i = 0
    · subst e; simp [h]
    · simp [e]
theorem r_blocksOf : ∀ e, e < 193 → m_X3_blocksOf (nI e) = some (nI (szN e)) := by decide +kernel
theorem r_size : ∀ e, e < 193 → m_X5_size (nI e) = some (nI (szN e)) := by decide +kernel
theorem r_firstOf : ∀ e, e < 193 → 0 < e → m_X3_firstOf (nI e) = some (nI (stN e)) := by decide +kernel
theorem r_start : ∀ e, e < 193 → 0 < e → m_X5_start (nI e) = some (nI (stN e)) := by decide +kernel
theorem r_order : ∀ e, e < 193 → 0 < e → m_X5_order (nI e) = some (nI (orN e)) := by decide +kernel
theorem r_isRun3 : ∀ e, e < 193 → 0 < e → m_X3_isRun (nI e) = some (bi (okE e)) := by decide +kernel
theorem r_isRun5 : ∀ e, e < 193 → 0 < e → m_X5_isRun (nI e) = some (bi (okE e)) := by decide +kernel
theorem r_bitsOf : ∀ e, e < 162 → okE e = true → m_X3_bitsOf (nI e) = some (mbE e) := by decide +kernel
theorem r_mapBits : ∀ b, b < 32 → ∀ r, r < 6 → b % 2 ^ r = 0 → m_X3_mapBits (nI b) (nI r) = some (mbE (1 + b + 32 * r)) := by decide +kernel
theorem r_bits5 : ∀ b, b < 32 → ∀ r, r < 6 → b % 2 ^ r = 0 → m_X5_bits (nI b) (nI r) = some (mbE (1 + b + 32 * r)) := by decide +kernel
theorem r_cell : ∀ b, b < 32 → ∀ r, r < 6 → b % 2 ^ r = 0 → okE (1 + b + 32 * r) = true ∧ szN (1 + b + 32 * r) = 2 ^ r ∧ stN (1 + b + 32 * r) = b ∧ orN (1 + b + 32 * r) = r ∧ b + 2 ^ r ≤ 32 := by decide +kernel
theorem r_bit : ∀ e, e < 162 → okE e = true → ∀ b, b < 32 → bt (mbE e) b = inE e b := by decide +kernel
theorem r_ok : ∀ e, e < 162 → okE e = true → stN e + szN e ≤ 32 ∧ szN e ≤ 32 ∧ stN e < 32 ∧ (0 < e → 1 ≤ szN e ∧ e = 1 + stN e + 32 * orN e ∧ orN e < 6 ∧ szN e = 2 ^ orN e ∧ stN e % 2 ^ orN e = 0) := by decide +kernel
theorem r_okE : ∀ e, okE e = true → e ≤ 161 := by
  intro e h
  unfold okE at h
  simp only [Bool.or_eq_true, decide_eq_true_eq, Bool.and_eq_true] at h
  omega
theorem r_cellOf (b r : Nat) : m_X3_cellOf (nI b) (nI r) = some (nI (1 + b + 32 * r)) := by
  unfold m_X3_cellOf
  simp only [q_c0, q_c1, q_c2, q_c3, q_c4, q_c5, q_c6, q_c7, q_c31, q_c32, q_c42, q_c44, q_c45, q_c46, q_c63, q_c64, q_c99, q_c109, q_c110, q_c111, q_c112, q_c113, q_c192, q_c331, q_c332, nI_add, pk_mul]
theorem r_within (v lo hi : Int32) : m_X5_within v lo hi = some (bi (decide (¬ v < lo) && decide (¬ hi < v))) := by
  unfold m_X5_within bi
  by_cases h : v < lo
  · simp [h]
  · by_cases h2 : hi < v <;> simp [h, h2]
theorem e_isIn : m_X0_isIn = m_X5_within := rfl
theorem e_size : m_X3_blocksOf = m_X5_size := rfl
theorem e_start : m_X3_firstOf = m_X5_start := rfl
theorem e_order : m_X3_orderOf = m_X5_order := rfl
theorem e_extentOf : m_X2_extentOf = m_X5_extentOf := rfl
theorem e_blocks : m_X2_blocksOf = m_X5_blocks := rfl
theorem r_isRun_out {x : Int32} (h : x < 1 ∨ (192 : Int32) < x) : m_X3_isRun x = some 0 ∧ m_X5_isRun x = some 0 := by
  constructor
  · unfold m_X3_isRun
    by_cases h1 : x < (1 : Int32)
    · rw [if_pos h1]
    · rw [if_neg h1]
      have h2 : (192 : Int32) < x := by rcases h with h | h; exact absurd h h1; exact h
      have h3 : ¬ x ≤ nI 161 := by
        rw [fa_le, nI_toInt (by omega)]
        rw [fa_lt] at h2
        have : (192 : Int32).toInt = 192 := by decide
        omega
      have e := r_cellOf 0 5
      rw [show m_X3_cellOf (0 : Int32) (5 : Int32) = some (nI 161) from e, Option.bind_some, if_neg h3]
  · unfold m_X5_isRun
    rw [r_within]
    have h1 : (decide (¬ x < (1 : Int32)) && decide (¬ (192 : Int32) < x)) = false := by
      rcases h with h | h <;> simp [h]
    rw [h1]
    rfl
def sm (g : Nat → Nat) : Nat → Nat
  | 0 => 0
  | n + 1 => sm g n + g n
theorem sm_cong {g h : Nat → Nat} : ∀ {n : Nat}, (∀ k, k < n → g k = h k) → sm g n = sm h n
  | 0, _ => rfl
  | n + 1, e => by rw [sm, sm, sm_cong (fun k hk => e k (by omega)), e n (by omega)]
theorem sm_le {g : Nat → Nat} {c : Nat} : ∀ {n : Nat}, (∀ k, k < n → g k ≤ c) → sm g n ≤ n * c
  | 0, _ => by simp [sm]
  | n + 1, e => by
    have h1 := sm_le (n := n) (fun k hk => e k (by omega))
    have h2 := e n (by omega)
    rw [sm, Nat.succ_mul]
    omega
theorem sm_part {g : Nat → Nat} {k : Nat} : ∀ {n : Nat}, k < n → g k ≤ sm g n
  | 0, h => absurd h (Nat.not_lt_zero _)
  | n + 1, h => by
    rw [sm]
    rcases Nat.lt_or_ge k n with q | q
    · have := sm_part (g := g) q; omega
    · have : k = n := by omega
      subst this; omega
theorem sm_mono {g : Nat → Nat} {m : Nat} : ∀ {n : Nat}, m ≤ n → sm g m ≤ sm g n
  | 0, h => by have : m = 0 := by omega
               subst this; exact Nat.le_refl _
  | n + 1, h => by
    rcases Nat.lt_or_ge m (n + 1) with q | q
    · have := sm_mono (g := g) (m := m) (n := n) (by omega); rw [sm]; omega
    · have : m = n + 1 := by omega
      subst this; exact Nat.le_refl _
theorem sm_upd {g : Nat → Nat} {v i : Nat} : ∀ {n : Nat}, i < n → sm (fun k => if k = i then v else g k) n + g i = sm g n + v
  | 0, h => absurd h (Nat.not_lt_zero _)
  | n + 1, h => by
    rw [sm, sm]
    rcases Nat.lt_or_ge i n with q | q
    · have h1 := sm_upd (g := g) (v := v) q
      rw [if_neg (by omega : ¬ n = i)]
      omega
    · have : i = n := by omega
      subst this
      rw [if_pos rfl, sm_cong (h := g) (fun k hk => if_neg (by omega))]
      omega
theorem sm_zero {g : Nat → Nat} : ∀ {n : Nat}, sm g n = 0 → ∀ k, k < n → g k = 0
  | 0, _, k, h => absurd h (Nat.not_lt_zero _)
  | n + 1, e, k, h => by
    rw [sm] at e
    rcases Nat.lt_or_ge k n with q | q
    · exact sm_zero (by omega) k q
    · have : k = n := by omega
      subst this; omega
theorem sm_nil {g : Nat → Nat} {n : Nat} (h : ∀ k, k < n → g k = 0) : sm g n = 0 := by
  have := sm_le (g := g) (c := 0) (n := n) (fun k hk => by rw [h k hk]; exact Nat.le_refl 0)
  omega
theorem sm_two {g : Nat → Nat} {i j : Nat} : ∀ {n : Nat}, i < j → j < n → g i + g j ≤ sm g n
  | 0, _, h => absurd h (Nat.not_lt_zero _)
  | n + 1, h1, h2 => by
    rw [sm]
    rcases Nat.lt_or_ge j n with q | q
    · have := sm_two (g := g) h1 q; omega
    · have : j = n := by omega
      subst this
      have := sm_part (g := g) h1; omega
theorem sz_le : ∀ e, e < 193 → szN e ≤ 32 := by decide +kernel
theorem ok_lt {e : Nat} (h : okE e = true) : e < 162 := by have := r_okE e h; omega
