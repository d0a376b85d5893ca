/-! THE PURE COPIES' WORDS: reading and writing an array, a loop with fuel, pairs taken apart -/
def g_ald (n : Nat) (f : Nat → Int32) (i : Int32) : Option Int32 := if ¬ (i < 0 ∨ n ≤ i.toNatClampNeg) then some (f i.toNatClampNeg) else none
def g_ast (n : Nat) (f : Nat → Int32) (i x : Int32) : Option (Nat → Int32) := if ¬ (i < 0 ∨ n ≤ i.toNatClampNeg) then some (upd f i.toNatClampNeg x) else none
def g_div (x y : Int32) : Option Int32 := if y = 0 then none else some (x / y)
def g_rem (x y : Int32) : Option Int32 := if y = 0 then none else some (x - x / y * y)
def g_bool (v : Int32) : Option Int32 := if v = 0 ∨ v = 1 then some v else none
def g_ushr (x y : Int32) : Int32 := (x.toUInt32 >>> (y.toUInt32 &&& Int32.toUInt32 31)).toInt32
def g_shl (x y : Int32) : Int32 := x <<< (y &&& 31)
def g_shr (x y : Int32) : Int32 := x >>> (y &&& 31)
def g_lushr (x : Int64) (y : Int32) : Int64 := (x.toUInt64 >>> (y.toInt64.toUInt64 &&& Int64.toUInt64 63)).toInt64
def g_lshl (x : Int64) (y : Int32) : Int64 := x <<< (y.toInt64 &&& 63)
def g_modc (x y : Int32) : Int32 := x - x / y * y
def g_loop {S R : Type} (st : S → Option (S ⊕ R)) : Nat → S → Option R
  | 0, _ => none
  | n + 1, s => match st s with
    | none => none
    | some (.inl s') => g_loop st n s'
    | some (.inr r) => some r
def g_nx {S R : Type} (st : S → Option (S ⊕ R)) (n : Nat) (r : R) : S ⊕ R → Prop
  | .inl s' => g_loop st n s' = some r
  | .inr q => q = r
theorem g_bind {α β : Type} {o : Option α} {k : α → Option β} {r : β} (h : o.bind k = some r) : ∃ x, o = some x ∧ k x = some r := by
  cases o with
  | none => cases h
  | some x => exact ⟨x, rfl, h⟩
theorem g_t {c : Prop} [Decidable c] {α : Type} {a b r : α} (hc : c) (h : (if c then a else b) = r) : a = r := by rw [if_pos hc] at h; exact h
theorem g_f {c : Prop} [Decidable c] {α : Type} {a b r : α} (hc : ¬ c) (h : (if c then a else b) = r) : b = r := by rw [if_neg hc] at h; exact h
theorem g_loop_s {S R : Type} {st : S → Option (S ⊕ R)} {n : Nat} {s : S} {r : R} (h : g_loop st (n + 1) s = some r) : ∃ y, st s = some y ∧ g_nx st n r y := by
  unfold g_loop at h
  cases e : st s with
  | none => rw [e] at h; cases h
  | some y =>
    rw [e] at h
    cases y with
    | inl s' => exact ⟨_, rfl, h⟩
    | inr q => exact ⟨_, rfl, Option.some.inj h⟩
theorem g_loop_z {S R : Type} {st : S → Option (S ⊕ R)} {s : S} {r : R} {C : Prop} (h : g_loop st 0 s = some r) : C := by unfold g_loop at h; cases h
theorem g_ald_s {n : Nat} {f : Nat → Int32} {i x : Int32} (h : g_ald n f i = some x) : vp_in i n ∧ f i.toNatClampNeg = x := by
  unfold g_ald at h
  by_cases c : ¬ (i < 0 ∨ n ≤ i.toNatClampNeg)
  · rw [if_pos c] at h; exact ⟨c, Option.some.inj h⟩
  · rw [if_neg c] at h; cases h
theorem g_ast_s {n : Nat} {f g : Nat → Int32} {i x : Int32} (h : g_ast n f i x = some g) : vp_in i n ∧ upd f i.toNatClampNeg x = g := by
  unfold g_ast at h
  by_cases c : ¬ (i < 0 ∨ n ≤ i.toNatClampNeg)
  · rw [if_pos c] at h; exact ⟨c, Option.some.inj h⟩
  · rw [if_neg c] at h; cases h
theorem g_rem_s {x y z : Int32} (h : g_rem x y = some z) : (¬ y = 0) ∧ x - x / y * y = z := by
  unfold g_rem at h
  by_cases c : y = 0
  · rw [if_pos c] at h; cases h
  · rw [if_neg c] at h; exact ⟨c, Option.some.inj h⟩
theorem g_div_s {x y z : Int32} (h : g_div x y = some z) : (¬ y = 0) ∧ x / y = z := by
  unfold g_div at h
  by_cases c : y = 0
  · rw [if_pos c] at h; cases h
  · rw [if_neg c] at h; exact ⟨c, Option.some.inj h⟩
theorem g_bool_s {v w : Int32} (h : g_bool v = some w) : narrow .boolean (.int v) = .int v ∧ v = w := by
  unfold g_bool at h
  by_cases c : v = 0 ∨ v = 1
  · rw [if_pos c] at h
    refine ⟨?_, Option.some.inj h⟩
    rcases c with c | c <;> subst c <;> rfl
  · rw [if_neg c] at h; cases h
def g_sk {V S T : Type} (kv : V → T) (ks : S → T) : V ⊕ S → T
  | .inl v => kv v
  | .inr s => ks s
theorem g_sk_l {V S T : Type} {kv : V → T} {ks : S → T} {v : V} {r : T} (h : g_sk kv ks (.inl v) = r) : kv v = r := h
theorem g_sk_r {V S T : Type} {kv : V → T} {ks : S → T} {s : S} {r : T} (h : g_sk kv ks (.inr s) = r) : ks s = r := h
def g_k0 {T : Type} (k : T) : Unit → T := fun _ => k
theorem g_k0_s {T : Type} {k r : T} (h : g_k0 k () = r) : k = r := h
def g_k1 {A T : Type} (k : A → T) : A → T := k
theorem g_k1_s {A T : Type} {k : A → T} {a : A} {r : T} (h : g_k1 k a = r) : k a = r := h
def g_k2 {A B T : Type} (kk : A → B → T) : A × B → T := fun q => kk q.1 q.2
theorem g_k2_s {A B T : Type} {kk : A → B → T} {a : A} {b : B} {r : T} (hh : g_k2 kk (a, b) = r) : kk a b = r := hh
def g_k3 {A B C T : Type} (kk : A → B → C → T) : A × B × C → T := fun q => kk q.1 q.2.1 q.2.2
theorem g_k3_s {A B C T : Type} {kk : A → B → C → T} {a : A} {b : B} {c : C} {r : T} (hh : g_k3 kk (a, b, c) = r) : kk a b c = r := hh
def g_k4 {A B C D T : Type} (kk : A → B → C → D → T) : A × B × C × D → T := fun q => kk q.1 q.2.1 q.2.2.1 q.2.2.2
theorem g_k4_s {A B C D T : Type} {kk : A → B → C → D → T} {a : A} {b : B} {c : C} {d : D} {r : T} (hh : g_k4 kk (a, b, c, d) = r) : kk a b c d = r := hh
def g_k5 {A B C D E T : Type} (kk : A → B → C → D → E → T) : A × B × C × D × E → T := fun q => kk q.1 q.2.1 q.2.2.1 q.2.2.2.1 q.2.2.2.2
theorem g_k5_s {A B C D E T : Type} {kk : A → B → C → D → E → T} {a : A} {b : B} {c : C} {d : D} {e : E} {r : T} (hh : g_k5 kk (a, b, c, d, e) = r) : kk a b c d e = r := hh
def g_k6 {A B C D E F T : Type} (kk : A → B → C → D → E → F → T) : A × B × C × D × E × F → T := fun q => kk q.1 q.2.1 q.2.2.1 q.2.2.2.1 q.2.2.2.2.1 q.2.2.2.2.2
theorem g_k6_s {A B C D E F T : Type} {kk : A → B → C → D → E → F → T} {a : A} {b : B} {c : C} {d : D} {e : E} {f : F} {r : T} (hh : g_k6 kk (a, b, c, d, e, f) = r) : kk a b c d e f = r := hh
def g_k7 {A B C D E F G T : Type} (kk : A → B → C → D → E → F → G → T) : A × B × C × D × E × F × G → T := fun q => kk q.1 q.2.1 q.2.2.1 q.2.2.2.1 q.2.2.2.2.1 q.2.2.2.2.2.1 q.2.2.2.2.2.2
theorem g_k7_s {A B C D E F G T : Type} {kk : A → B → C → D → E → F → G → T} {a : A} {b : B} {c : C} {d : D} {e : E} {f : F} {g : G} {r : T} (hh : g_k7 kk (a, b, c, d, e, f, g) = r) : kk a b c d e f g = r := hh
def g_k8 {A B C D E F G H T : Type} (kk : A → B → C → D → E → F → G → H → T) : A × B × C × D × E × F × G × H → T := fun q => kk q.1 q.2.1 q.2.2.1 q.2.2.2.1 q.2.2.2.2.1 q.2.2.2.2.2.1 q.2.2.2.2.2.2.1 q.2.2.2.2.2.2.2
theorem g_k8_s {A B C D E F G H T : Type} {kk : A → B → C → D → E → F → G → H → T} {a : A} {b : B} {c : C} {d : D} {e : E} {f : F} {g : G} {h : H} {r : T} (hh : g_k8 kk (a, b, c, d, e, f, g, h) = r) : kk a b c d e f g h = r := hh
def g_k9 {A B C D E F G H I T : Type} (kk : A → B → C → D → E → F → G → H → I → T) : A × B × C × D × E × F × G × H × I → T := fun q => kk q.1 q.2.1 q.2.2.1 q.2.2.2.1 q.2.2.2.2.1 q.2.2.2.2.2.1 q.2.2.2.2.2.2.1 q.2.2.2.2.2.2.2.1 q.2.2.2.2.2.2.2.2
theorem g_k9_s {A B C D E F G H I T : Type} {kk : A → B → C → D → E → F → G → H → I → T} {a : A} {b : B} {c : C} {d : D} {e : E} {f : F} {g : G} {h : H} {i : I} {r : T} (hh : g_k9 kk (a, b, c, d, e, f, g, h, i) = r) : kk a b c d e f g h i = r := hh
def g_k10 {A B C D E F G H I J T : Type} (kk : A → B → C → D → E → F → G → H → I → J → T) : A × B × C × D × E × F × G × H × I × J → T := fun q => kk q.1 q.2.1 q.2.2.1 q.2.2.2.1 q.2.2.2.2.1 q.2.2.2.2.2.1 q.2.2.2.2.2.2.1 q.2.2.2.2.2.2.2.1 q.2.2.2.2.2.2.2.2.1 q.2.2.2.2.2.2.2.2.2
theorem g_k10_s {A B C D E F G H I J T : Type} {kk : A → B → C → D → E → F → G → H → I → J → T} {a : A} {b : B} {c : C} {d : D} {e : E} {f : F} {g : G} {h : H} {i : I} {j : J} {r : T} (hh : g_k10 kk (a, b, c, d, e, f, g, h, i, j) = r) : kk a b c d e f g h i j = r := hh
def g_k11 {A B C D E F G H I J K T : Type} (kk : A → B → C → D → E → F → G → H → I → J → K → T) : A × B × C × D × E × F × G × H × I × J × K → T := fun q => kk q.1 q.2.1 q.2.2.1 q.2.2.2.1 q.2.2.2.2.1 q.2.2.2.2.2.1 q.2.2.2.2.2.2.1 q.2.2.2.2.2.2.2.1 q.2.2.2.2.2.2.2.2.1 q.2.2.2.2.2.2.2.2.2.1 q.2.2.2.2.2.2.2.2.2.2
theorem g_k11_s {A B C D E F G H I J K T : Type} {kk : A → B → C → D → E → F → G → H → I → J → K → T} {a : A} {b : B} {c : C} {d : D} {e : E} {f : F} {g : G} {h : H} {i : I} {j : J} {k : K} {r : T} (hh : g_k11 kk (a, b, c, d, e, f, g, h, i, j, k) = r) : kk a b c d e f g h i j k = r := hh
def g_k12 {A B C D E F G H I J K L T : Type} (kk : A → B → C → D → E → F → G → H → I → J → K → L → T) : A × B × C × D × E × F × G × H × I × J × K × L → T := fun q => kk q.1 q.2.1 q.2.2.1 q.2.2.2.1 q.2.2.2.2.1 q.2.2.2.2.2.1 q.2.2.2.2.2.2.1 q.2.2.2.2.2.2.2.1 q.2.2.2.2.2.2.2.2.1 q.2.2.2.2.2.2.2.2.2.1 q.2.2.2.2.2.2.2.2.2.2.1 q.2.2.2.2.2.2.2.2.2.2.2
theorem g_k12_s {A B C D E F G H I J K L T : Type} {kk : A → B → C → D → E → F → G → H → I → J → K → L → T} {a : A} {b : B} {c : C} {d : D} {e : E} {f : F} {g : G} {h : H} {i : I} {j : J} {k : K} {l : L} {r : T} (hh : g_k12 kk (a, b, c, d, e, f, g, h, i, j, k, l) = r) : kk a b c d e f g h i j k l = r := hh
section GW
variable {p : Program} {l : Launch} {e : Env} {R : Room} {s : State} {m : MethodId} {args : Array Value} {below : List Frame} {meth : Method} {c : Code} {H : Heap} {locs : List Loc} {cells slots : Nat} {Q : State → Prop}
variable {cc : ByteArray} {pc : Nat} {ls : Array Slot} {rest : List Value} {D : va_G} {cl : List vw_C} {tys : List (ClassId × FieldType)} {ws : va_W} {A : Nat → Prop} {H0 : Heap} {a : Nat}
theorem w_name {g : JFrame} (k : ∀ Q' : State → Prop, Q' = Q → W p l e R s m args below meth c H locs cells slots Q' g) : W p l e R s m args below meth c H locs cells slots Q g := k Q rfl
theorem w_ald (hexec : p.tables.exec = Jvm.exec) (hb : c.code = cc) (hK : va_K D cl tys s) (hP : va_P D cl ws H) (q0 t0 : Nat) {cA : ClassId} {n : Nat} {f : Nat → Int32} (ha : ws[q0]? = some (a, .inl (cA, n, .inl f))) (ht : tys[t0]? = some (cA, .int)) {i x : Int32} (h : g_ald n f i = some x) (hdg : decode cc pc = .ok (.iaload, 1))
    (kk : W p l e R s m args below meth c H locs cells slots Q (F0 m (pc + 1) ls (.int x :: rest))) : W p l e R s m args below meth c H locs cells slots Q (F0 m pc ls (.int i :: .ref a :: rest)) := by
  obtain ⟨h1, h2⟩ := g_ald_s h
  subst h2
  exact va_iald hexec hb hK hP q0 t0 ha ht h1 hdg kk
theorem w_ast (hexec : p.tables.exec = Jvm.exec) (hb : c.code = cc) (hK : va_K D cl tys s) (hP : va_P D cl ws H) (hD : va_D A ws) (hS : va_S A H0 H locs) (q0 t0 : Nat) {cA : ClassId} {n : Nat} {f f' : Nat → Int32} (ha : ws[q0]? = some (a, .inl (cA, n, .inl f))) (ht : tys[t0]? = some (cA, .int)) {i x : Int32} (h : g_ast n f i x = some f') (hdg : decode cc pc = .ok (.iastore, 1))
    (kk : ∀ (H1 : Heap) (locs1 : List Loc), va_P D cl (ws.set q0 (a, .inl (cA, n, .inl f'))) H1 → va_D A (ws.set q0 (a, .inl (cA, n, .inl f'))) → va_S A H0 H1 locs1 → W p l e R s m args below meth c H1 locs1 cells slots Q (F0 m (pc + 1) ls rest)) : W p l e R s m args below meth c H locs cells slots Q (F0 m pc ls (.int x :: .int i :: .ref a :: rest)) := by
  obtain ⟨h1, h2⟩ := g_ast_s h
  subst h2
  exact va_iast hexec hb hK hP hD hS q0 t0 ha ht h1 hdg kk
theorem w_zald (hexec : p.tables.exec = Jvm.exec) (hb : c.code = cc) (hK : va_K D cl tys s) (hP : va_P D cl ws H) (q0 t0 : Nat) {cA : ClassId} {n : Nat} {f : Nat → Int32} (ha : ws[q0]? = some (a, .inl (cA, n, .inl f))) (ht : tys[t0]? = some (cA, .boolean)) {i x : Int32} (h : g_ald n f i = some x) (hdg : decode cc pc = .ok (.baload, 1))
    (kk : W p l e R s m args below meth c H locs cells slots Q (F0 m (pc + 1) ls (.int x :: rest))) : W p l e R s m args below meth c H locs cells slots Q (F0 m pc ls (.int i :: .ref a :: rest)) := by
  obtain ⟨h1, h2⟩ := g_ald_s h
  subst h2
  exact va_zald hexec hb hK hP q0 t0 ha ht h1 hdg kk
theorem w_zast (hexec : p.tables.exec = Jvm.exec) (hb : c.code = cc) (hK : va_K D cl tys s) (hP : va_P D cl ws H) (hD : va_D A ws) (hS : va_S A H0 H locs) (q0 t0 : Nat) {cA : ClassId} {n : Nat} {f f' : Nat → Int32} (ha : ws[q0]? = some (a, .inl (cA, n, .inl f))) (ht : tys[t0]? = some (cA, .boolean)) {i x : Int32} (hx : vp_nar .boolean x = x) (h : g_ast n f i x = some f') (hdg : decode cc pc = .ok (.bastore, 1))
    (kk : ∀ (H1 : Heap) (locs1 : List Loc), va_P D cl (ws.set q0 (a, .inl (cA, n, .inl f'))) H1 → va_D A (ws.set q0 (a, .inl (cA, n, .inl f'))) → va_S A H0 H1 locs1 → W p l e R s m args below meth c H1 locs1 cells slots Q (F0 m (pc + 1) ls rest)) : W p l e R s m args below meth c H locs cells slots Q (F0 m pc ls (.int x :: .int i :: .ref a :: rest)) := by
  obtain ⟨h1, h2⟩ := g_ast_s h
  subst h2
  refine va_zast hexec hb hK hP hD hS q0 t0 ha ht h1 hdg ?_
  rw [hx]
  exact kk
end GW
theorem w_nar0 : vp_nar .boolean 0 = 0 := rfl
theorem w_nar1 : vp_nar .boolean 1 = 1 := rfl
/-- a contract's start doesn't see the frames -/
theorem w_blR {av : List Value} {D : va_G} {cl : List vw_C} {tys : List (ClassId × FieldType)} {ws : va_W} : FrameBlind (va_Pc av (fun U => va_P D cl ws U.heap ∧ va_K D cl tys U)) := fun a U g mk q => by
  obtain ⟨q0, qP, qK⟩ := q
  exact ⟨q0, qP, va_K.moved (u := U) (U := U.calling g mk a) (Vm.Alike.refl U.vm) qK⟩
theorem w_bl0 {av : List Value} : FrameBlind (va_Pc av (fun _ => True)) := fun a U g mk q => by
  obtain ⟨q0, qP⟩ := q
  exact ⟨q0, qP⟩
theorem w_blW {av : List Value} {D : va_G} {cl : List vw_C} {tys : List (ClassId × FieldType)} {ws : va_W} {A : Nat → Prop} {sz : Nat} : FrameBlind (va_Pc av (fun U => U.heap.size = sz ∧ va_P D cl ws U.heap ∧ va_K D cl tys U ∧ va_D A ws)) := fun a U g mk q => by
  obtain ⟨q0, q1, qP, qK, qD⟩ := q
  exact ⟨q0, q1, qP, va_K.moved (u := U) (U := U.calling g mk a) (Vm.Alike.refl U.vm) qK, qD⟩
abbrev wH (A_h A_a : Nat) (K_a : ClassId) (c_a : Nat → Int32) : va_W := [(A_h, .inr (1, [.ref A_a])), (A_a, .inl (K_a, 110, .inl c_a))]
abbrev tH (K_a : ClassId) : List (ClassId × FieldType) := [(K_a, .int)]
abbrev wD (A_d A_da : Nat) (K_da : ClassId) (c_da : Nat → Int32) : va_W := [(A_d, .inr (0, [.ref A_da])), (A_da, .inl (K_da, 332, .inl c_da))]
abbrev tD (K_da : ClassId) : List (ClassId × FieldType) := [(K_da, .int)]
abbrev wDH (A_d A_da A_ja : Nat) (K_da K_ja : ClassId) (c_da c_ja : Nat → Int32) : va_W := [(A_d, .inr (0, [.ref A_da])), (A_da, .inl (K_da, 332, .inl c_da)), (A_ja, .inl (K_ja, 110, .inl c_ja))]
abbrev tDH (K_da K_ja : ClassId) : List (ClassId × FieldType) := [(K_da, .int), (K_ja, .int)]
abbrev wHD (A_h A_a A_da : Nat) (K_a K_da : ClassId) (c_a c_da : Nat → Int32) : va_W := [(A_h, .inr (1, [.ref A_a])), (A_a, .inl (K_a, 110, .inl c_a)), (A_da, .inl (K_da, 332, .inl c_da))]
abbrev tHD (K_a K_da : ClassId) : List (ClassId × FieldType) := [(K_a, .int), (K_da, .int)]
abbrev wB (A_x A_d A_mh A_jh A_ha A_da A_ma A_ja : Nat) (K_ha K_da K_ma K_ja : ClassId) (c_ha c_da c_ma c_ja : Nat → Int32) (c_up c_fu : Int32) : va_W := [(A_x, .inr (2, [.ref A_d, .ref A_mh, .ref A_jh, .ref A_ha, .int c_up, .int c_fu])), (A_d, .inr (0, [.ref A_da])), (A_mh, .inr (1, [.ref A_ma])), (A_jh, .inr (1, [.ref A_ja])), (A_ha, .inl (K_ha, 4, .inl c_ha)), (A_da, .inl (K_da, 332, .inl c_da)), (A_ma, .inl (K_ma, 110, .inl c_ma)), (A_ja, .inl (K_ja, 110, .inl c_ja))]
abbrev tB (K_ha K_da K_ma K_ja : ClassId) : List (ClassId × FieldType) := [(K_ha, .int), (K_da, .int), (K_ma, .int), (K_ja, .int)]
abbrev wM (A_x A_da A_ma A_ha A_ho A_ti A_be A_te A_ch : Nat) (K_da K_ma K_ha K_ho K_ti K_be K_te K_ch : ClassId) (c_da c_ma c_ha c_ho c_ti c_be c_te c_ch : Nat → Int32) (c_up c_fu c_tm c_tc : Int32) : va_W := [(A_x, .inr (3, [.ref A_da, .int c_up, .int c_fu, .ref A_ma, .ref A_ha, .ref A_ho, .ref A_ti, .ref A_be, .int c_tm, .int c_tc, .ref A_te, .ref A_ch])), (A_da, .inl (K_da, 332, .inl c_da)), (A_ma, .inl (K_ma, 110, .inl c_ma)), (A_ha, .inl (K_ha, 4, .inl c_ha)), (A_ho, .inl (K_ho, 110, .inl c_ho)), (A_ti, .inl (K_ti, 32, .inl c_ti)), (A_be, .inl (K_be, 64, .inl c_be)), (A_te, .inl (K_te, 4, .inl c_te)), (A_ch, .inl (K_ch, 110, .inl c_ch))]
abbrev tM (K_da K_ma K_ha K_ho K_ti K_be K_te K_ch : ClassId) : List (ClassId × FieldType) := [(K_da, .int), (K_ma, .int), (K_ha, .int), (K_ho, .int), (K_ti, .int), (K_be, .boolean), (K_te, .int), (K_ch, .int)]
