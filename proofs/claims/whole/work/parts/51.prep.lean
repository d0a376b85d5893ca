/-! what the steps stand on: a fresh disk, a file's word, growing, taking away, mounting -/
def frD : Nat → Int32 := fun j => if 42 ≤ j ∧ j ≤ 44 then 32 else 0
theorem s_clear {d : Nat → Int32} : m_X1_clear d = some (ovr frD d 332) := by
  have h1 := q_copy (st := fun q => m_X1_clear_L2 q.1 q.2) (fun _ => 0) d 332 (fun a => a) (by omega)
    (by
      intro i a hi
      show m_X1_clear_L2 (nI i) a = _
      unfold m_X1_clear_L2
      rw [show (332 : Int32) = nI 332 from rfl, i_nle hi (by omega), q_ast hi (by omega), Option.bind_some, show nI i + (1 : Int32) = nI (i + 1) from nI_1 i])
    (fun a => rfl)
  obtain ⟨r, x1, x2⟩ := q_for (st := fun q => m_X1_clear_L24 q.1 q.2) (fun i (a : Nat → Int32) => (nI i, a)) 3 (fun i a => a = fun j => if 42 ≤ j ∧ j < 42 + i then 32 else ovr (fun _ => 0) d 332 j) (fun r => r = ovr frD d 332)
    (by
      intro i a hi ha
      left
      refine ⟨_, ?_, rfl⟩
      show m_X1_clear_L24 (nI i) a = _
      unfold m_X1_clear_L24
      rw [show (3 : Int32) = nI 3 from rfl, i_nle hi (by omega), show (42 : Int32) + nI i = nI (42 + i) from nI_add 42 i, q_ast (by omega) (by omega), Option.bind_some, show nI i + (1 : Int32) = nI (i + 1) from nI_1 i]
      have e : upd a (42 + i) 32 = fun j => if 42 ≤ j ∧ j < 42 + (i + 1) then 32 else ovr (fun _ => 0) d 332 j := by
        funext j
        by_cases c : j = 42 + i
        · subst c; rw [q_ul, if_pos (by omega)]
        · rw [q_un c, ha]
          dsimp only
          by_cases c2 : 42 ≤ j ∧ j < 42 + i
          · rw [if_pos c2, if_pos (by omega)]
          · rw [if_neg c2, if_neg (by omega)]
      rw [e])
    (by
      intro a ha
      refine ⟨a, rfl, ?_⟩
      rw [ha]
      funext j
      unfold ovr frD
      by_cases c : j < 332
      · rw [if_pos c, if_pos c]
        by_cases c2 : 42 ≤ j ∧ j < 42 + 3
        · rw [if_pos c2, if_pos (by omega)]
        · rw [if_neg c2, if_neg (by omega)]
      · rw [if_neg c, if_neg c, if_neg (by omega)])
    3 0 (ovr (fun _ => 0) d 332) 1000 rfl (by funext j; exact (if_neg (by omega)).symm) (by omega)
  unfold m_X1_clear
  rw [show ((0 : Int32), d) = (nI 0, d) from rfl, h1, q_k1, show ((0 : Int32), ovr (fun _ => 0) d 332) = (nI 0, ovr (fun _ => 0) d 332) from rfl, x1, q_k1, x2]
theorem s_goUp {ha : Nat → Int32} {up fu : Int32} : m_X4_goUp ha up fu = some (ovr (fun _ => -1) ha 4, 1, -1) := by
  have h1 := q_copy (st := fun q => m_X4_goUp_L2 q.1 q.2) (fun _ => -1) ha 4 (fun a => a) (by omega)
    (by
      intro i a hi
      show m_X4_goUp_L2 (nI i) a = _
      unfold m_X4_goUp_L2
      rw [show (4 : Int32) = nI 4 from rfl, i_nle hi (by omega), q_ast hi (by omega), Option.bind_some, show nI i + (1 : Int32) = nI (i + 1) from nI_1 i])
    (fun a => rfl)
  unfold m_X4_goUp
  rw [show ((0 : Int32), ha) = (nI 0, ha) from rfl, h1, q_k1]
theorem s_format5 {d m ha : Nat → Int32} {up fu : Int32} : m_X5_format d m ha up fu = some (ovr frD d 332, ovr (ovr frD d 332) m 110, ovr (fun _ => 0) ha 4, 1, -1) := by
  have h1 := q_copy (st := fun q => m_X5_format_L2 q.1 q.2) frD d 332 (fun a => a) (by omega)
    (by
      intro i a hi
      show m_X5_format_L2 (nI i) a = _
      unfold m_X5_format_L2 m_X5_within frD
      rw [show (332 : Int32) = nI 332 from rfl, i_nle hi (by omega), show (42 : Int32) = nI 42 from rfl, show (44 : Int32) = nI 44 from rfl, q_ast hi (by omega), q_ast hi (by omega), show nI i + (1 : Int32) = nI (i + 1) from nI_1 i]
      by_cases c1 : i < 42
      · rw [i_lt c1 (by omega), if_neg (by omega)]; rfl
      · rw [i_nlt (by omega) (by omega)]
        by_cases c2 : 44 < i
        · rw [i_lt c2 (by omega), if_neg (by omega)]; rfl
        · rw [i_nlt (by omega) (by omega), if_pos (by omega)]; rfl)
    (fun a => rfl)
  have h2 := q_copy (st := fun q => m_X5_format_L40 (ovr frD d 332) q.1 q.2) (ovr frD d 332) m 110 (fun a => a) (by omega)
    (by
      intro i a hi
      show m_X5_format_L40 (ovr frD d 332) (nI i) a = _
      unfold m_X5_format_L40
      rw [show (110 : Int32) = nI 110 from rfl, i_nle hi (by omega), q_ald (by omega) (by omega), Option.bind_some, q_ast hi (by omega), Option.bind_some, show nI i + (1 : Int32) = nI (i + 1) from nI_1 i])
    (fun a => rfl)
  have h3 := q_copy (st := fun q => m_X5_format_L76 q.1 q.2) (fun _ => 0) ha 4 (fun a => a) (by omega)
    (by
      intro i a hi
      show m_X5_format_L76 (nI i) a = _
      unfold m_X5_format_L76
      rw [show (4 : Int32) = nI 4 from rfl, i_nle hi (by omega), q_ast hi (by omega), Option.bind_some, show nI i + (1 : Int32) = nI (i + 1) from nI_1 i])
    (fun a => rfl)
  unfold m_X5_format
  rw [show ((0 : Int32), d) = (nI 0, d) from rfl, h1, q_k1, show ((0 : Int32), m) = (nI 0, m) from rfl, h2, q_k1, show ((0 : Int32), ha) = (nI 0, ha) from rfl, h3, q_k1]
theorem Cl_fresh {f : Nat → Int32} (h : ∀ j, j < 110 → f j = frD j) : Cl f := by
  have h0 : ∀ j, j < 110 → (j < 42 ∨ 44 < j) → f j = 0 := by
    intro j hj q
    rw [h j hj]
    exact if_neg (by omega)
  have c0 : ∀ b, cov (fun _ _ => 0) b = 0 := fun b => rfl
  refine ⟨fun _ => 0, fun _ => 0, fun _ => 0, fun _ => 0, fun _ => 32, fun _ _ => 0, fun s hs => ?_, fun s _ t _ q => absurd rfl q, fun b _ => by rw [c0]; omega, fun s _ => ⟨(by show (0 + 1) / 2 ≤ 0; decide), fun i q => absurd q (Nat.succ_ne_zero i)⟩, fun b hb => ?_, fun o ho => ?_, fun w hw => ?_⟩
  · refine ⟨⟨h0 _ (by omega) (by omega), h0 _ (by omega) (by omega), h0 _ (by omega) (by omega), fun k hk => h0 _ (by omega) (by omega)⟩, ⟨Nat.zero_le _, Nat.zero_le _, Nat.zero_le _, Nat.zero_le _⟩, fun _ _ => rfl, fun k _ => ⟨fun q => absurd rfl q, fun q => absurd q (Nat.not_lt_zero _)⟩, fun _ => ⟨rfl, rfl, rfl⟩⟩
  · rw [h0 45 (by omega) (by omega), b_0, c0]
    rfl
  · refine ⟨?_, Nat.le_refl _, ?_⟩
    · rw [h _ (by omega)]
      exact if_pos (by omega)
    · have : usg (fun _ => 0) (fun _ _ => 0) o = 0 := sm_nil (fun k _ => by
        show (if _ then pre (fun _ => 0) 4 else 0) = 0
        rw [show pre (fun _ => 0) 4 = 0 from rfl, ite_self])
      rw [this]; omega
  · exact Or.inr (h0 _ (by omega) (by omega))
theorem s_fresh (ha d m ha' : Nat → Int32) (up fu up' fu' : Int32) : ∃ u_ha v_ha d2 m2, m_X4_startAfresh ha d m up fu = some (u_ha, d2, m2, 1, -1) ∧ m_X5_format d m ha' up' fu' = some (d2, m2, v_ha, 1, -1) ∧ (∀ h, h < 4 → u_ha h = -1 ∧ v_ha h = 0) ∧ Cl m2 := by
  refine ⟨ovr (fun _ => -1) ha 4, ovr (fun _ => 0) ha' 4, ovr frD d 332, ovr (ovr frD d 332) m 110, ?_, s_format5, fun h hh => ⟨ovr_in hh, ovr_in hh⟩, Cl_fresh (fun j hj => (ovr_in hj).trans (ovr_in (by omega)))⟩
  unfold m_X4_startAfresh
  rw [s_clear, Option.bind_some, s_copyFrom, Option.bind_some, s_goUp, q_k3]
theorem Cln.wd {f : Nat → Int32} {N O L R Q : Nat → Nat} {E : Nat → Nat → Nat} (h : Cln f N O L R Q E) {s p : Nat} (hs : s < 6) (hp : p < L s) : ∃ w, idx (E s) 4 0 p = some w ∧ w < 64 ∧ m_X2_wordAt f (nI s) (nI p) = some (f (46 + w)) ∧ m_X5_wordCell f (nI s) (nI p) = some (nI (46 + w)) ∧ ∀ x, m_X2_putWord f (nI s) (nI p) x = some (upd f (46 + w) x) := by
  obtain ⟨⟨h1, h2, h3, h4⟩, ⟨h5, h6, h7, h8⟩, h9, h10, h11⟩ := h.1 s hs
  have hn := (h.2.2.2.1 s hs).1
  obtain ⟨w, hw⟩ := idx_some (E := E s) (p := p) (by omega)
  have hl := idx_lt h9 hw
  have e1 : m_X2_wordIndex f (nI s) (nI p) = some (nI w) := by rw [s_wordIndex hs h4 h9 (by omega), hw]
  refine ⟨w, hw, hl.1, ?_, ?_, fun x => ?_⟩
  · unfold m_X2_wordAt
    rw [e1, Option.bind_some, if_neg (nI_nm (by omega)), show (46 : Int32) + nI w = nI (46 + w) from nI_add 46 w, q_ald (by omega) (by omega), Option.bind_some]
  · rw [s_wordCell hs h4 h9 (by omega), hw]
  · rw [s_putWord hs h4 h9 (by omega), hw]
theorem Cln.grown {f : Nat → Int32} {N O L R Q : Nat → Nat} {E : Nat → Nat → Nat} (h : Cln f N O L R Q E) {s len : Nat} (hs : s < 6) (hN : N s ≠ 0) (hl : L s < len) (hl2 : len ≤ 64) (te : Nat → Int32) (tm tc : Int32) :
    ∃ (c : Int32) (f' te' : Nat → Int32) (tm' tc' : Int32), m_X2_grow f (nI s) (nI len) = some (c, f') ∧ m_X5_grow f te tm tc (nI s) (nI len) = some (c, f', te', tm', tc') ∧ ((¬ c = 0 ∧ ¬ 0 ≤ c ∧ f' = f) ∨ (c = 0 ∧ ∃ L' R' E', L' s = len ∧ Cln f' N O L' R' Q E')) := by
  have hQ : ∀ o, o ≤ 2 → f (42 + o) = nI (Q o) ∧ Q o ≤ 32 := fun o ho => ⟨(h.2.2.2.2.2.1 o ho).1, (h.2.2.2.2.2.1 o ho).2.1⟩
  have x1 := s_grow2 h.1 hQ hs hl2 hN
  obtain ⟨te', tm', tc', x2⟩ := s_grow5 te tm tc h.1 hQ hs hl2
  refine ⟨(growR f s len (R s) (pre (E s) 4) (usg O E (O s)) (Q (O s))).1, (growR f s len (R s) (pre (E s) 4) (usg O E (O s)) (Q (O s))).2, te', tm', tc', x1, x2, ?_⟩
  by_cases h9 : (gro (4 - R s) (f 45) (pre (E s) 4) ((len + 1) / 2)).2.2 < (len + 1) / 2
  · have e : growR f s len (R s) (pre (E s) 4) (usg O E (O s)) (Q (O s)) = (-8, f) := if_pos h9
    rw [e]
    exact Or.inl ⟨(by decide : ¬ (-8 : Int32) = 0), (by decide : ¬ (0 : Int32) ≤ -8), rfl⟩
  · by_cases h10 : Q (O s) < usg O E (O s) - pre (E s) 4 + (gro (4 - R s) (f 45) (pre (E s) 4) ((len + 1) / 2)).2.2
    · have e : growR f s len (R s) (pre (E s) 4) (usg O E (O s)) (Q (O s)) = (-9, f) := (if_neg h9).trans (if_pos h10)
      rw [e]
      exact Or.inl ⟨(by decide : ¬ (-9 : Int32) = 0), (by decide : ¬ (0 : Int32) ≤ -9), rfl⟩
    · refine Or.inr ⟨?_, h.grow hs hN hl hl2 h9 h10⟩
      unfold growR
      rw [if_neg h9, if_neg h10]
theorem Cln.dropped {f : Nat → Int32} {N O L R Q : Nat → Nat} {E : Nat → Nat → Nat} (h : Cln f N O L R Q E) {s : Nat} (hs : s < 6) : ∃ f', m_X2_dropFile f (nI s) = some f' ∧ m_X5_takeAway f (nI s) = some f' ∧ Cln f' (va1 N s 0) (va1 O s 0) (va1 L s 0) (va1 R s 0) Q (va1 E s (fun _ => 0)) ∧ ∀ t, t < 6 → t ≠ s → f' (7 * t) = f (7 * t) := by
  obtain ⟨f', a1, a2, a3, a4, a6, a7, a8⟩ := s_drop (h.1 s hs) hs (h.2.2.2.1 s hs).1 (h.loose hs)
  exact ⟨f', a1, a2, h.drop hs a3 a4 a6 a7 a8, fun t ht q => a6 _ (by omega) (by omega)⟩
theorem Cln.shrunk {f : Nat → Int32} {N O L R Q : Nat → Nat} {E : Nat → Nat → Nat} (h : Cln f N O L R Q E) {s len : Nat} (hs : s < 6) (hN : N s ≠ 0) (hl : len ≤ L s) : ∃ f', m_X2_shrink f (nI s) (nI len) = some f' ∧ m_X5_shrink f (nI s) (nI len) = some f' ∧ Cl f' ∧ ∀ t, t < 6 → f' (7 * t) = f (7 * t) := by
  obtain ⟨f', a1, a2, a3, a4, a5, a6, a7, a8, a9⟩ := s_shrink (len := len) (h.1 s hs) hs hl (h.2.2.2.1 s hs).1 (h.loose hs)
  exact ⟨f', a1, a2, h.shrink hs hN hl a3 a4 a5 a6 a7 a8, fun t ht => a6 _ (by omega) (by omega)⟩
theorem s_mnt (d ho : Nat → Int32) : ∃ (v : Bool) (g D : Nat → Int32), m_X1_journalHolds d = some (bi v) ∧ m_X5_holds d = some (bi v) ∧ m_X5_fetch d ho = some g ∧ (if bi v = (0 : Int32) then some d else ((m_X1_replayJournal d).bind fun f16 => some f16)) = some D ∧ (if bi v = (0 : Int32) then some d else ((g_loop (fun q => m_X5_mount_L24 g q.1 q.2) 1000 ((0 : Int32), d)).bind (g_k1 fun f23 => ((g_ast 332 f23 (110 : Int32) (0 : Int32)).bind fun f29 => some f29)))) = some D ∧ ∀ j, j < 110 → g j = D j := by
  obtain ⟨v, j1, j2, j3⟩ := s_hold (d := d)
  cases v with
  | false =>
    refine ⟨false, ovr d ho 110, d, j1, j2, ?_, rfl, rfl, fun j hj => ovr_in hj⟩
    exact s_fetch (n := 0) j2 (fun q => by cases q)
  | true =>
    obtain ⟨n, n0, n1, n2, n3⟩ := j3 rfl
    have hF := s_fetch (ho := ho) (n := n) j2 (fun _ => ⟨n1, n2, n3⟩)
    rw [if_pos rfl] at hF
    have hg : ∀ j, j < 110 → rpl d n (ovr d ho 110) j = rpl d n d j := fun j hj => rpl_cg (ovr_in hj)
    have h1 := q_copy (st := fun q => m_X5_mount_L24 (rpl d n (ovr d ho 110)) q.1 q.2) (rpl d n (ovr d ho 110)) d 110 (fun a => a) (by omega)
      (by
        intro i a hi
        show m_X5_mount_L24 (rpl d n (ovr d ho 110)) (nI i) a = _
        unfold m_X5_mount_L24
        rw [show (110 : Int32) = nI 110 from rfl, i_nle hi (by omega), q_ald (by omega) (by omega), Option.bind_some, q_ast (by omega) (by omega), Option.bind_some, show nI i + (1 : Int32) = nI (i + 1) from nI_1 i])
      (fun a => rfl)
    have eD : upd (rpl d n d) 110 0 = upd (ovr (rpl d n (ovr d ho 110)) d 110) 110 0 := upd_ext (fun j hj => by
      rcases Nat.lt_or_ge j 110 with z | z
      · rw [ovr_in z, hg j z]
      · rw [ovr_out z, rpl_out z n3])
    refine ⟨true, rpl d n (ovr d ho 110), upd (rpl d n d) 110 0, j1, j2, hF, ?_, ?_, fun j hj => ?_⟩
    · unfold m_X1_replayJournal
      rw [if_neg (by decide), s_replayS n1 n2 n3, Option.bind_some, show (110 : Int32) = nI 110 from rfl, q_ast (by omega) (by omega), Option.bind_some, Option.bind_some]
    · rw [if_neg (by decide), show ((0 : Int32), d) = (nI 0, d) from rfl, h1, q_k1, show (110 : Int32) = nI 110 from rfl, q_ast (by omega) (by omega), Option.bind_some, eD]
    · rw [q_un (by omega)]; exact hg j hj
