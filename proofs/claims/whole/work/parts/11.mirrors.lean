def m_X2_nameOf (c_a : (Nat → Int32)) (p1 : Int32) : Option (Int32) :=
  ((g_ald 110 c_a ((7 : Int32) * p1)).bind fun x1 => some x1)
def m_X0_isIn  (p0 : Int32) (p1 : Int32) (p2 : Int32) : Option (Int32) :=
  (if p0 < p1 then some (0 : Int32) else (if p2 < p0 then some (0 : Int32) else some (1 : Int32)))
def m_X2_ownerOf (c_a : (Nat → Int32)) (p1 : Int32) : Option (Int32) :=
  ((g_ald 110 c_a (((7 : Int32) * p1) + (1 : Int32))).bind fun x1 => some x1)
def m_X2_lengthOf (c_a : (Nat → Int32)) (p1 : Int32) : Option (Int32) :=
  ((g_ald 110 c_a (((7 : Int32) * p1) + (2 : Int32))).bind fun x1 => some x1)
def m_X0_isAllZero_L2 (p1 : Int32) (c_a : (Nat → Int32)) (y1 : Int32) : Option ((Int32) ⊕ ((Int32) ⊕ (Unit))) :=
  (if (7 : Int32) ≤ y1 then some (.inr (.inr ())) else ((g_ald 110 c_a (((7 : Int32) * p1) + y1)).bind fun x4 => (if x4 = (0 : Int32) then some (.inl (y1 + (1 : Int32))) else some (.inr (.inl (0 : Int32))))))
def m_X0_isAllZero (c_a : (Nat → Int32)) (p1 : Int32) : Option (Int32) :=
  ((g_loop (fun q => m_X0_isAllZero_L2 p1 c_a q) 1000 (0 : Int32)).bind (g_sk (fun v => some v) (g_k0 (some (1 : Int32)))))
def m_X0_slotsAreInRange_L2 (c_a : (Nat → Int32)) (y1 : Int32) : Option ((Int32) ⊕ ((Int32) ⊕ (Unit))) :=
  (if (6 : Int32) ≤ y1 then some (.inr (.inr ())) else ((m_X2_nameOf c_a y1).bind fun x4 => ((m_X0_isIn x4 (0 : Int32) (99 : Int32)).bind fun x5 => (if x5 = (0 : Int32) then some (.inr (.inl (0 : Int32))) else ((m_X2_ownerOf c_a y1).bind fun x7 => ((m_X0_isIn x7 (0 : Int32) (2 : Int32)).bind fun x8 => (if x8 = (0 : Int32) then some (.inr (.inl (0 : Int32))) else ((m_X2_lengthOf c_a y1).bind fun x10 => ((m_X0_isIn x10 (0 : Int32) (64 : Int32)).bind fun x11 => (if x11 = (0 : Int32) then some (.inr (.inl (0 : Int32))) else ((m_X2_nameOf c_a y1).bind fun x13 => (if x13 = (0 : Int32) then ((m_X0_isAllZero c_a y1).bind fun x15 => (if x15 = (0 : Int32) then some (.inr (.inl (0 : Int32))) else some (.inl (y1 + (1 : Int32))))) else some (.inl (y1 + (1 : Int32)))))))))))))))
def m_X0_slotsAreInRange (c_a : (Nat → Int32))  : Option (Int32) :=
  ((g_loop (fun q => m_X0_slotsAreInRange_L2 c_a q) 1000 (0 : Int32)).bind (g_sk (fun v => some v) (g_k0 (some (1 : Int32)))))
def m_X0_namesDiffer_L10 (c_a : (Nat → Int32)) (y1 : Int32) (y4 : Int32) : Option ((Int32) ⊕ ((Int32) ⊕ (Unit))) :=
  (if y1 ≤ y4 then some (.inr (.inr ())) else ((m_X2_nameOf c_a y1).bind fun x7 => (if x7 = (0 : Int32) then some (.inl (y4 + (1 : Int32))) else ((m_X2_nameOf c_a y1).bind fun x9 => ((m_X2_nameOf c_a y4).bind fun x10 => (if x9 = x10 then some (.inr (.inl (0 : Int32))) else some (.inl (y4 + (1 : Int32)))))))))
def m_X0_namesDiffer_L2 (c_a : (Nat → Int32)) (y1 : Int32) : Option ((Int32) ⊕ ((Int32) ⊕ (Unit))) :=
  (if (6 : Int32) ≤ y1 then some (.inr (.inr ())) else ((g_loop (fun q => m_X0_namesDiffer_L10 c_a y1 q) 1000 (0 : Int32)).bind (g_sk (fun v => some (.inr (.inl v))) (g_k0 (some (.inl (y1 + (1 : Int32))))))))
def m_X0_namesDiffer (c_a : (Nat → Int32))  : Option (Int32) :=
  ((g_loop (fun q => m_X0_namesDiffer_L2 c_a q) 1000 (1 : Int32)).bind (g_sk (fun v => some v) (g_k0 (some (1 : Int32)))))
def m_X2_extentOf (c_a : (Nat → Int32)) (p1 : Int32) (p2 : Int32) : Option (Int32) :=
  ((g_ald 110 c_a ((((7 : Int32) * p1) + (3 : Int32)) + p2)).bind fun x1 => some x1)
def m_X3_cellOf  (p0 : Int32) (p1 : Int32) : Option (Int32) :=
  some (((1 : Int32) + p0) + ((32 : Int32) * p1))
def m_X3_firstOf  (p0 : Int32) : Option (Int32) :=
  some (g_modc (p0 - (1 : Int32)) (32 : Int32))
def m_X3_orderOf  (p0 : Int32) : Option (Int32) :=
  some ((p0 - (1 : Int32)) / (32 : Int32))
def m_X3_blocksOf  (p0 : Int32) : Option (Int32) :=
  (if p0 = (0 : Int32) then some (0 : Int32) else ((m_X3_orderOf p0).bind fun x2 => some (g_shl (1 : Int32) x2)))
def m_X3_isRun  (p0 : Int32) : Option (Int32) :=
  (if p0 < (1 : Int32) then some (0 : Int32) else ((m_X3_cellOf (0 : Int32) (5 : Int32)).bind fun x2 => (if p0 ≤ x2 then ((m_X3_firstOf p0).bind fun x4 => ((m_X3_blocksOf p0).bind fun x5 => (if (x4 &&& (x5 - (1 : Int32))) = (0 : Int32) then some (1 : Int32) else some (0 : Int32)))) else some (0 : Int32))))
def m_X0_extentsAreRuns_L12 (c_a : (Nat → Int32)) (y1 : Int32) (y4 : Int32) (y5 : Int32) : Option ((Int32 × Int32) ⊕ ((Int32) ⊕ (Unit))) :=
  (if (4 : Int32) ≤ y5 then some (.inr (.inr ())) else ((m_X2_extentOf c_a y1 y5).bind fun x8 => (if x8 = (0 : Int32) then some (.inl ((1 : Int32), (y5 + (1 : Int32)))) else (if y4 = (0 : Int32) then ((m_X3_isRun x8).bind fun x11 => (if x11 = (0 : Int32) then some (.inr (.inl (0 : Int32))) else some (.inl (y4, (y5 + (1 : Int32)))))) else some (.inr (.inl (0 : Int32)))))))
def m_X0_extentsAreRuns_L2 (c_a : (Nat → Int32)) (y1 : Int32) : Option ((Int32) ⊕ ((Int32) ⊕ (Unit))) :=
  (if (6 : Int32) ≤ y1 then some (.inr (.inr ())) else ((g_loop (fun q => m_X0_extentsAreRuns_L12 c_a y1 q.1 q.2) 1000 ((0 : Int32), (0 : Int32))).bind (g_sk (fun v => some (.inr (.inl v))) (g_k0 (some (.inl (y1 + (1 : Int32))))))))
def m_X0_extentsAreRuns (c_a : (Nat → Int32))  : Option (Int32) :=
  ((g_loop (fun q => m_X0_extentsAreRuns_L2 c_a q) 1000 (0 : Int32)).bind (g_sk (fun v => some v) (g_k0 (some (1 : Int32)))))
def m_X3_mapBits  (p0 : Int32) (p1 : Int32) : Option (Int32) :=
  some (g_shl (g_ushr (-1 : Int32) ((32 : Int32) - (g_shl (1 : Int32) p1))) p0)
def m_X3_bitsOf  (p0 : Int32) : Option (Int32) :=
  (if p0 = (0 : Int32) then some (0 : Int32) else ((m_X3_firstOf p0).bind fun x2 => ((m_X3_orderOf p0).bind fun x3 => ((m_X3_mapBits x2 x3).bind fun x4 => some x4))))
def m_X0_runsAreApart_L12 (c_a : (Nat → Int32)) (y2 : Int32) (y5 : Int32) (y6 : Int32) : Option ((Int32 × Int32) ⊕ ((Int32) ⊕ (Int32))) :=
  (if (4 : Int32) ≤ y6 then some (.inr (.inr y5)) else ((m_X2_extentOf c_a y2 y6).bind fun x10 => ((m_X3_bitsOf x10).bind fun x11 => (if (y5 &&& x11) = (0 : Int32) then some (.inl ((y5 ||| x11), (y6 + (1 : Int32)))) else some (.inr (.inl (0 : Int32)))))))
def m_X0_runsAreApart_L4 (c_a : (Nat → Int32)) (y1 : Int32) (y2 : Int32) : Option ((Int32 × Int32) ⊕ ((Int32) ⊕ (Unit))) :=
  (if (6 : Int32) ≤ y2 then some (.inr (.inr ())) else ((g_loop (fun q => m_X0_runsAreApart_L12 c_a y2 q.1 q.2) 1000 (y1, (0 : Int32))).bind (g_sk (fun v => some (.inr (.inl v))) (g_k1 fun z7 => some (.inl (z7, (y2 + (1 : Int32))))))))
def m_X0_runsAreApart (c_a : (Nat → Int32))  : Option (Int32) :=
  ((g_loop (fun q => m_X0_runsAreApart_L4 c_a q.1 q.2) 1000 ((0 : Int32), (0 : Int32))).bind (g_sk (fun v => some v) (g_k0 (some (1 : Int32)))))
def m_X2_needOf  (p0 : Int32) : Option (Int32) :=
  some ((p0 + (1 : Int32)) / (2 : Int32))
def m_X2_blocksOf_L4 (p1 : Int32) (c_a : (Nat → Int32)) (y1 : Int32) (y2 : Int32) : Option ((Int32 × Int32) ⊕ (Int32)) :=
  (if (4 : Int32) ≤ y2 then some (.inr y1) else ((m_X2_extentOf c_a p1 y2).bind fun x6 => ((m_X3_blocksOf x6).bind fun x7 => some (.inl ((y1 + x7), (y2 + (1 : Int32)))))))
def m_X2_blocksOf (c_a : (Nat → Int32)) (p1 : Int32) : Option (Int32) :=
  ((g_loop (fun q => m_X2_blocksOf_L4 p1 c_a q.1 q.2) 1000 ((0 : Int32), (0 : Int32))).bind (g_k1 fun z3 => some z3))
def m_X2_runsOf_L4 (p1 : Int32) (c_a : (Nat → Int32)) (y1 : Int32) (y2 : Int32) : Option ((Int32 × Int32) ⊕ (Int32)) :=
  (if (4 : Int32) ≤ y2 then some (.inr y1) else ((m_X2_extentOf c_a p1 y2).bind fun x6 => (if x6 = (0 : Int32) then some (.inl (y1, (y2 + (1 : Int32)))) else some (.inl ((y1 + (1 : Int32)), (y2 + (1 : Int32)))))))
def m_X2_runsOf (c_a : (Nat → Int32)) (p1 : Int32) : Option (Int32) :=
  ((g_loop (fun q => m_X2_runsOf_L4 p1 c_a q.1 q.2) 1000 ((0 : Int32), (0 : Int32))).bind (g_k1 fun z3 => some z3))
def m_X0_runsFitLengths_L2 (c_a : (Nat → Int32)) (y1 : Int32) : Option ((Int32) ⊕ ((Int32) ⊕ (Unit))) :=
  (if (6 : Int32) ≤ y1 then some (.inr (.inr ())) else ((m_X2_lengthOf c_a y1).bind fun x4 => ((m_X2_needOf x4).bind fun x5 => ((m_X2_blocksOf c_a y1).bind fun x6 => ((m_X2_runsOf c_a y1).bind fun x7 => (if x5 ≤ x6 then (if x7 ≤ (0 : Int32) then some (.inl (y1 + (1 : Int32))) else ((m_X2_extentOf c_a y1 (x7 - (1 : Int32))).bind fun x10 => ((m_X3_blocksOf x10).bind fun x11 => (if (x6 - x11) < x5 then some (.inl (y1 + (1 : Int32))) else some (.inr (.inl (0 : Int32))))))) else some (.inr (.inl (0 : Int32)))))))))
def m_X0_runsFitLengths (c_a : (Nat → Int32))  : Option (Int32) :=
  ((g_loop (fun q => m_X0_runsFitLengths_L2 c_a q) 1000 (0 : Int32)).bind (g_sk (fun v => some v) (g_k0 (some (1 : Int32)))))
def m_X0_bitsOfAllRuns_L12 (c_a : (Nat → Int32)) (y2 : Int32) (y6 : Int32) (y7 : Int32) : Option ((Int32 × Int32) ⊕ (Int32)) :=
  (if (4 : Int32) ≤ y7 then some (.inr y6) else ((m_X2_extentOf c_a y2 y7).bind fun x11 => ((m_X3_bitsOf x11).bind fun x12 => some (.inl ((y6 ||| x12), (y7 + (1 : Int32)))))))
def m_X0_bitsOfAllRuns_L4 (c_a : (Nat → Int32)) (y1 : Int32) (y2 : Int32) : Option ((Int32 × Int32) ⊕ (Int32)) :=
  (if (6 : Int32) ≤ y2 then some (.inr y1) else ((g_loop (fun q => m_X0_bitsOfAllRuns_L12 c_a y2 q.1 q.2) 1000 (y1, (0 : Int32))).bind (g_k1 fun z8 => some (.inl (z8, (y2 + (1 : Int32)))))))
def m_X0_bitsOfAllRuns (c_a : (Nat → Int32))  : Option (Int32) :=
  ((g_loop (fun q => m_X0_bitsOfAllRuns_L4 c_a q.1 q.2) 1000 ((0 : Int32), (0 : Int32))).bind (g_k1 fun z3 => some z3))
def m_X2_quotaOf (c_a : (Nat → Int32)) (p1 : Int32) : Option (Int32) :=
  ((g_ald 110 c_a ((42 : Int32) + p1)).bind fun x1 => some x1)
def m_X2_usageOf_L4 (p1 : Int32) (c_a : (Nat → Int32)) (y1 : Int32) (y2 : Int32) : Option ((Int32 × Int32) ⊕ (Int32)) :=
  (if (6 : Int32) ≤ y2 then some (.inr y1) else ((m_X2_ownerOf c_a y2).bind fun x6 => (if x6 = p1 then ((m_X2_blocksOf c_a y2).bind fun x8 => some (.inl ((y1 + x8), (y2 + (1 : Int32))))) else some (.inl (y1, (y2 + (1 : Int32)))))))
def m_X2_usageOf (c_a : (Nat → Int32)) (p1 : Int32) : Option (Int32) :=
  ((g_loop (fun q => m_X2_usageOf_L4 p1 c_a q.1 q.2) 1000 ((0 : Int32), (0 : Int32))).bind (g_k1 fun z3 => some z3))
def m_X0_quotasCoverUsage_L2 (c_a : (Nat → Int32)) (y1 : Int32) : Option ((Int32) ⊕ ((Int32) ⊕ (Unit))) :=
  (if (3 : Int32) ≤ y1 then some (.inr (.inr ())) else ((m_X2_quotaOf c_a y1).bind fun x4 => ((m_X2_usageOf c_a y1).bind fun x5 => ((m_X0_isIn x4 x5 (32 : Int32)).bind fun x6 => (if x6 = (0 : Int32) then some (.inr (.inl (0 : Int32))) else some (.inl (y1 + (1 : Int32))))))))
def m_X0_quotasCoverUsage (c_a : (Nat → Int32))  : Option (Int32) :=
  ((g_loop (fun q => m_X0_quotasCoverUsage_L2 c_a q) 1000 (0 : Int32)).bind (g_sk (fun v => some v) (g_k0 (some (1 : Int32)))))
def m_X2_wordIndex_L5 (p1 : Int32) (c_a : (Nat → Int32)) (y1 : Int32) (y2 : Int32) : Option ((Int32 × Int32) ⊕ ((Int32) ⊕ (Unit))) :=
  (if (4 : Int32) ≤ y2 then some (.inr (.inr ())) else ((m_X2_extentOf c_a p1 y2).bind fun x5 => ((m_X3_blocksOf x5).bind fun x6 => (if ((2 : Int32) * x6) ≤ y1 then some (.inl ((y1 - ((2 : Int32) * x6)), (y2 + (1 : Int32)))) else ((m_X3_firstOf x5).bind fun x8 => some (.inr (.inl (((2 : Int32) * x8) + y1))))))))
def m_X2_wordIndex (c_a : (Nat → Int32)) (p1 : Int32) (p2 : Int32) : Option (Int32) :=
  ((g_loop (fun q => m_X2_wordIndex_L5 p1 c_a q.1 q.2) 1000 (p2, (0 : Int32))).bind (g_sk (fun v => some v) (g_k0 (some (-1 : Int32)))))
def m_X0_bitsOfWords_L12 (p1 : Int32) (c_a : (Nat → Int32)) (x1 : Int32) (y2 : Int64) (y3 : Int32) : Option ((Int64 × Int32) ⊕ (Int64)) :=
  (if x1 ≤ y3 then some (.inr y2) else ((m_X2_wordIndex c_a p1 y3).bind fun x7 => (if x7 = (-1 : Int32) then some (.inl (y2, (y3 + (1 : Int32)))) else some (.inl ((y2 ||| (g_lshl (1 : Int64) x7)), (y3 + (1 : Int32)))))))
def m_X0_bitsOfWords (c_a : (Nat → Int32)) (p1 : Int32) : Option (Int64) :=
  ((m_X2_lengthOf c_a p1).bind fun x1 => ((g_loop (fun q => m_X0_bitsOfWords_L12 p1 c_a x1 q.1 q.2) 1000 ((0 : Int64), (0 : Int32))).bind (g_k1 fun z4 => some z4)))
def m_X0_looseWordsAreZero_L4 (c_a : (Nat → Int32)) (y1 : Int64) (y2 : Int32) : Option ((Int64 × Int32) ⊕ (Int64)) :=
  (if (6 : Int32) ≤ y2 then some (.inr y1) else ((m_X0_bitsOfWords c_a y2).bind fun x6 => some (.inl ((y1 ||| x6), (y2 + (1 : Int32))))))
def m_X0_looseWordsAreZero_L26 (c_a : (Nat → Int32)) (z3 : Int64) (y7 : Int32) : Option ((Int32) ⊕ ((Int32) ⊕ (Unit))) :=
  (if (64 : Int32) ≤ y7 then some (.inr (.inr ())) else (if (lg_cmp ((g_lushr z3 y7) &&& (1 : Int64)) (0 : Int64)) = (0 : Int32) then ((g_ald 110 c_a ((46 : Int32) + y7)).bind fun x11 => (if x11 = (0 : Int32) then some (.inl (y7 + (1 : Int32))) else some (.inr (.inl (0 : Int32))))) else some (.inl (y7 + (1 : Int32)))))
def m_X0_looseWordsAreZero (c_a : (Nat → Int32))  : Option (Int32) :=
  ((g_loop (fun q => m_X0_looseWordsAreZero_L4 c_a q.1 q.2) 1000 ((0 : Int64), (0 : Int32))).bind (g_k1 fun z3 => ((g_loop (fun q => m_X0_looseWordsAreZero_L26 c_a z3 q) 1000 (0 : Int32)).bind (g_sk (fun v => some v) (g_k0 (some (1 : Int32)))))))
def m_X0_leastBroken (c_a : (Nat → Int32))  : Option (Int32) :=
  ((m_X0_slotsAreInRange c_a).bind fun x1 => (if x1 = (0 : Int32) then some (1 : Int32) else ((m_X0_namesDiffer c_a).bind fun x3 => (if x3 = (0 : Int32) then some (2 : Int32) else ((m_X0_extentsAreRuns c_a).bind fun x5 => (if x5 = (0 : Int32) then some (3 : Int32) else ((m_X0_runsAreApart c_a).bind fun x7 => (if x7 = (0 : Int32) then some (4 : Int32) else ((m_X0_runsFitLengths c_a).bind fun x9 => (if x9 = (0 : Int32) then some (5 : Int32) else ((g_ald 110 c_a (45 : Int32)).bind fun x11 => ((m_X0_bitsOfAllRuns c_a).bind fun x12 => (if x11 = x12 then ((m_X0_quotasCoverUsage c_a).bind fun x14 => (if x14 = (0 : Int32) then some (7 : Int32) else ((m_X0_looseWordsAreZero c_a).bind fun x16 => (if x16 = (0 : Int32) then some (8 : Int32) else some (0 : Int32))))) else some (6 : Int32))))))))))))))
def m_X1_clear_L2  (y1 : Int32) (f2 : (Nat → Int32)) : Option ((Int32 × (Nat → Int32)) ⊕ ((Nat → Int32))) :=
  (if (332 : Int32) ≤ y1 then some (.inr f2) else ((g_ast 332 f2 y1 (0 : Int32)).bind fun f6 => some (.inl ((y1 + (1 : Int32)), f6))))
def m_X1_clear_L24  (y8 : Int32) (f9 : (Nat → Int32)) : Option ((Int32 × (Nat → Int32)) ⊕ ((Nat → Int32))) :=
  (if (3 : Int32) ≤ y8 then some (.inr f9) else ((g_ast 332 f9 ((42 : Int32) + y8) (32 : Int32)).bind fun f13 => some (.inl ((y8 + (1 : Int32)), f13))))
def m_X1_clear (c_da : (Nat → Int32))  : Option ((Nat → Int32)) :=
  ((g_loop (fun q => m_X1_clear_L2 q.1 q.2) 1000 ((0 : Int32), c_da)).bind (g_k1 fun f3 => ((g_loop (fun q => m_X1_clear_L24 q.1 q.2) 1000 ((0 : Int32), f3)).bind (g_k1 fun f10 => some f10))))
def m_X1_nextCheck  (p0 : Int32) (p1 : Int32) (p2 : Int32) : Option (Int32) :=
  some ((((p0 * (31 : Int32)) + p1) * (31 : Int32)) + p2)
def m_X1_journalHolds_L28 (c_da : (Nat → Int32)) (x1 : Int32) (y4 : Int32) (y5 : Int32) (y6 : Int32) : Option ((Int32 × Int32 × Int32) ⊕ ((Int32) ⊕ (Int32))) :=
  (if x1 ≤ y6 then some (.inr (.inr y4)) else ((g_ald 332 c_da ((112 : Int32) + ((2 : Int32) * y6))).bind fun x10 => (if x10 ≤ y5 then some (.inr (.inl (0 : Int32))) else (if x10 < (110 : Int32) then ((g_ald 332 c_da (((112 : Int32) + ((2 : Int32) * y6)) + (1 : Int32))).bind fun x13 => ((m_X1_nextCheck y4 x10 x13).bind fun x14 => some (.inl (x14, x10, (y6 + (1 : Int32)))))) else some (.inr (.inl (0 : Int32)))))))
def m_X1_journalHolds (c_da : (Nat → Int32))  : Option (Int32) :=
  ((g_ald 332 c_da (110 : Int32)).bind fun x1 => (if x1 < (1 : Int32) then some (0 : Int32) else (if x1 ≤ (110 : Int32) then ((g_loop (fun q => m_X1_journalHolds_L28 c_da x1 q.1 q.2.1 q.2.2) 1000 (x1, (-1 : Int32), (0 : Int32))).bind (g_sk (fun v => some v) (g_k1 fun z7 => ((g_ald 332 c_da (111 : Int32)).bind fun x15 => (if z7 = x15 then some (1 : Int32) else some (0 : Int32)))))) else some (0 : Int32))))
def m_X1_replayIntoS_L10 (x1 : Int32) (y2 : Int32) (f3 : (Nat → Int32)) : Option ((Int32 × (Nat → Int32)) ⊕ ((Nat → Int32))) :=
  (if x1 ≤ y2 then some (.inr f3) else ((g_ald 332 f3 ((112 : Int32) + ((2 : Int32) * y2))).bind fun x7 => ((g_ald 332 f3 (((112 : Int32) + ((2 : Int32) * y2)) + (1 : Int32))).bind fun x8 => ((g_ast 332 f3 x7 x8).bind fun f9 => some (.inl ((y2 + (1 : Int32)), f9))))))
def m_X1_replayIntoS (c_da : (Nat → Int32))  : Option ((Nat → Int32)) :=
  ((g_ald 332 c_da (110 : Int32)).bind fun x1 => ((g_loop (fun q => m_X1_replayIntoS_L10 x1 q.1 q.2) 1000 ((0 : Int32), c_da)).bind (g_k1 fun f4 => some f4)))
def m_X1_replayJournal (c_da : (Nat → Int32))  : Option ((Nat → Int32)) :=
  ((m_X1_replayIntoS c_da).bind fun f1 => ((g_ast 332 f1 (110 : Int32) (0 : Int32)).bind fun f3 => some f3))
def m_X1_replayInto_L10 (c_da : (Nat → Int32)) (x1 : Int32) (y2 : Int32) (f3 : (Nat → Int32)) : Option ((Int32 × (Nat → Int32)) ⊕ ((Nat → Int32))) :=
  (if x1 ≤ y2 then some (.inr f3) else ((g_ald 332 c_da ((112 : Int32) + ((2 : Int32) * y2))).bind fun x7 => ((g_ald 332 c_da (((112 : Int32) + ((2 : Int32) * y2)) + (1 : Int32))).bind fun x8 => ((g_ast 110 f3 x7 x8).bind fun f9 => some (.inl ((y2 + (1 : Int32)), f9))))))
def m_X1_replayInto (c_da : (Nat → Int32)) (c_ja : (Nat → Int32))  : Option ((Nat → Int32)) :=
  ((g_ald 332 c_da (110 : Int32)).bind fun x1 => ((g_loop (fun q => m_X1_replayInto_L10 c_da x1 q.1 q.2) 1000 ((0 : Int32), c_ja)).bind (g_k1 fun f4 => some f4)))
def m_X2_copyFrom (c_a : (Nat → Int32)) (c_da : (Nat → Int32))  : Option ((Nat → Int32)) :=
  ((some (va_cpy c_da c_a 0 0 110)).bind fun f1 => some (va_cpy c_da c_a 0 0 110))
def m_X2_putLength (c_a : (Nat → Int32)) (p1 : Int32) (p2 : Int32) : Option ((Nat → Int32)) :=
  ((g_ast 110 c_a (((7 : Int32) * p1) + (2 : Int32)) p2).bind fun f1 => some f1)
def m_X2_putExtent (c_a : (Nat → Int32)) (p1 : Int32) (p2 : Int32) (p3 : Int32) : Option ((Nat → Int32)) :=
  ((g_ast 110 c_a ((((7 : Int32) * p1) + (3 : Int32)) + p2) p3).bind fun f1 => some f1)
def m_X2_putQuota (c_a : (Nat → Int32)) (p1 : Int32) (p2 : Int32) : Option ((Nat → Int32)) :=
  ((g_ast 110 c_a ((42 : Int32) + p1) p2).bind fun f1 => some f1)
def m_X2_slotOf_L2 (p1 : Int32) (c_a : (Nat → Int32)) (y1 : Int32) : Option ((Int32) ⊕ ((Int32) ⊕ (Unit))) :=
  (if (6 : Int32) ≤ y1 then some (.inr (.inr ())) else (if p1 = (0 : Int32) then some (.inl (y1 + (1 : Int32))) else ((m_X2_nameOf c_a y1).bind fun x5 => (if x5 = p1 then some (.inr (.inl y1)) else some (.inl (y1 + (1 : Int32)))))))
def m_X2_slotOf (c_a : (Nat → Int32)) (p1 : Int32) : Option (Int32) :=
  ((g_loop (fun q => m_X2_slotOf_L2 p1 c_a q) 1000 (0 : Int32)).bind (g_sk (fun v => some v) (g_k0 (some (-1 : Int32)))))
def m_X2_emptySlot_L2 (c_a : (Nat → Int32)) (y1 : Int32) : Option ((Int32) ⊕ ((Int32) ⊕ (Unit))) :=
  (if (6 : Int32) ≤ y1 then some (.inr (.inr ())) else ((m_X2_nameOf c_a y1).bind fun x4 => (if x4 = (0 : Int32) then some (.inr (.inl y1)) else some (.inl (y1 + (1 : Int32))))))
def m_X2_emptySlot (c_a : (Nat → Int32))  : Option (Int32) :=
  ((g_loop (fun q => m_X2_emptySlot_L2 c_a q) 1000 (0 : Int32)).bind (g_sk (fun v => some v) (g_k0 (some (-1 : Int32)))))
def m_X2_nameFile (c_a : (Nat → Int32)) (p1 : Int32) (p2 : Int32) : Option ((Nat → Int32)) :=
  ((g_ast 110 c_a ((7 : Int32) * p1) p2).bind fun f1 => some f1)
def m_X2_makeFile (c_a : (Nat → Int32)) (p1 : Int32) (p2 : Int32) (p3 : Int32) : Option ((Nat → Int32)) :=
  ((g_ast 110 c_a ((7 : Int32) * p1) p2).bind fun f1 => ((g_ast 110 f1 (((7 : Int32) * p1) + (1 : Int32)) p3).bind fun f3 => some f3))
def m_X2_giveBackRuns_L15 (p1 : Int32) (p2 : Int32) (y3 : Int32) (y4 : Int32) (f5 : (Nat → Int32)) : Option ((Int32 × Int32 × (Nat → Int32)) ⊕ (((Nat → Int32)) ⊕ ((Nat → Int32)))) :=
  (if y4 < (0 : Int32) then some (.inr (.inr f5)) else ((m_X2_extentOf f5 p1 y4).bind fun x9 => ((m_X3_blocksOf x9).bind fun x10 => (if p2 ≤ (y3 - x10) then ((g_ald 110 f5 (45 : Int32)).bind fun x12 => ((m_X3_bitsOf x9).bind fun x13 => ((g_ast 110 f5 (45 : Int32) (x12 &&& (x13 ^^^ (-1 : Int32)))).bind fun f14 => ((m_X2_putExtent f14 p1 y4 (0 : Int32)).bind fun f16 => some (.inl ((y3 - x10), (y4 + (-1 : Int32)), f16)))))) else some (.inr (.inl f5))))))
def m_X2_giveBackRuns (c_a : (Nat → Int32)) (p1 : Int32) (p2 : Int32) : Option ((Nat → Int32)) :=
  ((m_X2_blocksOf c_a p1).bind fun x1 => ((m_X2_runsOf c_a p1).bind fun x2 => ((g_loop (fun q => m_X2_giveBackRuns_L15 p1 p2 q.1 q.2.1 q.2.2) 1000 (x1, (x2 - (1 : Int32)), c_a)).bind (g_sk (fun v => some v) (g_k1 fun f6 => some f6)))))
def m_X2_putWord (c_a : (Nat → Int32)) (p1 : Int32) (p2 : Int32) (p3 : Int32) : Option ((Nat → Int32)) :=
  ((m_X2_wordIndex c_a p1 p2).bind fun x1 => (if x1 = (-1 : Int32) then some c_a else ((g_ast 110 c_a ((46 : Int32) + x1) p3).bind fun f3 => some f3)))
def m_X2_shrink_L9 (p1 : Int32) (x1 : Int32) (y2 : Int32) (f3 : (Nat → Int32)) : Option ((Int32 × (Nat → Int32)) ⊕ ((Nat → Int32))) :=
  (if x1 ≤ y2 then some (.inr f3) else ((m_X2_putWord f3 p1 y2 (0 : Int32)).bind fun f7 => some (.inl ((y2 + (1 : Int32)), f7))))
def m_X2_shrink (c_a : (Nat → Int32)) (p1 : Int32) (p2 : Int32) : Option ((Nat → Int32)) :=
  ((m_X2_lengthOf c_a p1).bind fun x1 => ((g_loop (fun q => m_X2_shrink_L9 p1 x1 q.1 q.2) 1000 (p2, c_a)).bind (g_k1 fun f4 => ((m_X2_putLength f4 p1 p2).bind fun f9 => ((m_X2_needOf p2).bind fun x11 => ((m_X2_giveBackRuns f9 p1 x11).bind fun f12 => some f12))))))
def m_X2_dropFile (c_a : (Nat → Int32)) (p1 : Int32) : Option ((Nat → Int32)) :=
  ((m_X2_shrink c_a p1 (0 : Int32)).bind fun f1 => ((m_X2_makeFile f1 p1 (0 : Int32) (0 : Int32)).bind fun f3 => some f3))
def m_X2_wordAt (c_a : (Nat → Int32)) (p1 : Int32) (p2 : Int32) : Option (Int32) :=
  ((m_X2_wordIndex c_a p1 p2).bind fun x1 => (if x1 = (-1 : Int32) then some (0 : Int32) else ((g_ald 110 c_a ((46 : Int32) + x1)).bind fun x3 => some x3)))
def m_X2_orderFor_L2 (p0 : Int32) (y1 : Int32) : Option ((Int32) ⊕ (Int32)) :=
  (if (5 : Int32) ≤ y1 then some (.inr y1) else (if p0 ≤ (g_shl (1 : Int32) y1) then some (.inr y1) else some (.inl (y1 + (1 : Int32)))))
def m_X2_orderFor  (p0 : Int32) : Option (Int32) :=
  ((g_loop (fun q => m_X2_orderFor_L2 p0 q) 1000 (0 : Int32)).bind (g_k1 fun z2 => some z2))
def m_X2_isFreeRun (c_a : (Nat → Int32)) (p1 : Int32) (p2 : Int32) : Option (Int32) :=
  ((g_ald 110 c_a (45 : Int32)).bind fun x1 => ((m_X3_mapBits p1 p2).bind fun x2 => (if (x1 &&& x2) = (0 : Int32) then (if p2 = (5 : Int32) then some (1 : Int32) else ((m_X3_mapBits (p1 &&& (-(g_shl (2 : Int32) p2))) (p2 + (1 : Int32))).bind fun x5 => (if (x1 &&& x5) = (0 : Int32) then some (0 : Int32) else some (1 : Int32)))) else some (0 : Int32))))
def m_X2_takeRun_L9 (p1 : Int32) (c_a : (Nat → Int32)) (y1 : Int32) (y4 : Int32) : Option ((Int32) ⊕ ((Int32 × (Nat → Int32)) ⊕ (Unit))) :=
  (if (g_shr (32 : Int32) y1) ≤ y4 then some (.inr (.inr ())) else ((m_X2_isFreeRun c_a (g_shl y4 y1) y1).bind fun x7 => (if x7 = (0 : Int32) then some (.inl (y4 + (1 : Int32))) else ((g_ald 110 c_a (45 : Int32)).bind fun x9 => ((m_X3_mapBits (g_shl y4 y1) p1).bind fun x10 => ((g_ast 110 c_a (45 : Int32) (x9 ||| x10)).bind fun f11 => ((m_X3_cellOf (g_shl y4 y1) p1).bind fun x13 => some (.inr (.inl (x13, f11))))))))))
def m_X2_takeRun_L2 (p1 : Int32) (c_a : (Nat → Int32)) (y1 : Int32) : Option ((Int32) ⊕ ((Int32 × (Nat → Int32)) ⊕ (Unit))) :=
  (if (5 : Int32) < y1 then some (.inr (.inr ())) else ((g_loop (fun q => m_X2_takeRun_L9 p1 c_a y1 q) 1000 (0 : Int32)).bind (g_sk (fun v => some (.inr (.inl v))) (g_k0 (some (.inl (y1 + (1 : Int32))))))))
def m_X2_takeRun (c_a : (Nat → Int32)) (p1 : Int32) : Option (Int32 × (Nat → Int32)) :=
  ((g_loop (fun q => m_X2_takeRun_L2 p1 c_a q) 1000 p1).bind (g_sk (fun v => some v) (g_k0 (some ((0 : Int32), c_a)))))
def m_X2_takeRunFor_L5  (y2 : Int32) (f3 : (Nat → Int32)) : Option ((Int32 × (Nat → Int32)) ⊕ ((Int32 × (Nat → Int32)) ⊕ ((Nat → Int32)))) :=
  (if y2 < (0 : Int32) then some (.inr (.inr f3)) else ((m_X2_takeRun f3 y2).bind (g_k2 fun x7 f8 => (if x7 = (0 : Int32) then some (.inl ((y2 + (-1 : Int32)), f8)) else some (.inr (.inl (x7, f8)))))))
def m_X2_takeRunFor (c_a : (Nat → Int32)) (p1 : Int32) : Option (Int32 × (Nat → Int32)) :=
  ((m_X2_orderFor p1).bind fun x1 => ((g_loop (fun q => m_X2_takeRunFor_L5 q.1 q.2) 1000 (x1, c_a)).bind (g_sk (fun v => some v) (g_k1 fun f4 => some ((0 : Int32), f4)))))
def m_X2_takeRuns_L10 (p1 : Int32) (p3 : Int32) (y2 : Int32) (y3 : Int32) (f4 : (Nat → Int32)) : Option ((Int32 × Int32 × (Nat → Int32)) ⊕ ((Int32 × (Nat → Int32)) ⊕ (Int32 × (Nat → Int32)))) :=
  (if (4 : Int32) ≤ y3 then some (.inr (.inr (y2, f4))) else (if p3 ≤ y2 then some (.inr (.inr (y2, f4))) else ((m_X2_takeRunFor f4 (p3 - y2)).bind (g_k2 fun x10 f11 => (if x10 = (0 : Int32) then some (.inr (.inl ((-8 : Int32), f11))) else ((m_X2_putExtent f11 p1 y3 x10).bind fun f14 => ((m_X3_blocksOf x10).bind fun x16 => some (.inl ((y2 + x16), (y3 + (1 : Int32)), f14)))))))))
def m_X2_takeRuns (c_a : (Nat → Int32)) (p1 : Int32) (p2 : Int32) (p3 : Int32) : Option (Int32 × (Nat → Int32)) :=
  ((m_X2_blocksOf c_a p1).bind fun x1 => ((g_loop (fun q => m_X2_takeRuns_L10 p1 p3 q.1 q.2.1 q.2.2) 1000 (x1, p2, c_a)).bind (g_sk (fun v => some v) (g_k2 fun z5 f6 => (if p3 ≤ z5 then some ((0 : Int32), f6) else some ((-8 : Int32), f6))))))
def m_X2_grow_L83 (p1 : Int32) (y12 : Int32) (f13 : (Nat → Int32)) : Option ((Int32 × (Nat → Int32)) ⊕ ((Nat → Int32))) :=
  (if (4 : Int32) ≤ y12 then some (.inr f13) else ((m_X2_putExtent f13 p1 y12 (0 : Int32)).bind fun f17 => some (.inl ((y12 + (1 : Int32)), f17))))
def m_X2_grow (c_a : (Nat → Int32)) (p1 : Int32) (p2 : Int32) : Option (Int32 × (Nat → Int32)) :=
  ((g_ald 110 c_a (45 : Int32)).bind fun x1 => ((m_X2_runsOf c_a p1).bind fun x2 => ((m_X2_needOf p2).bind fun x3 => ((m_X2_takeRuns c_a p1 x2 x3).bind (g_k2 fun x4 f5 => ((if x4 = (0 : Int32) then ((m_X2_ownerOf f5 p1).bind fun x22 => ((m_X2_usageOf f5 x22).bind fun x23 => ((m_X2_ownerOf f5 p1).bind fun x24 => ((m_X2_quotaOf f5 x24).bind fun x25 => (if x23 ≤ x25 then some x4 else some (-9 : Int32)))))) else some x4).bind (g_k1 fun v7 => (if v7 = (0 : Int32) then ((m_X2_putLength f5 p1 p2).bind fun f19 => some ((0 : Int32), f19)) else ((g_ast 110 f5 (45 : Int32) x1).bind fun f10 => ((g_loop (fun q => m_X2_grow_L83 p1 q.1 q.2) 1000 (x2, f10)).bind (g_k1 fun f14 => some (v7, f14))))))))))))
def m_X2_freeRunsOf_L4 (p1 : Int32) (c_a : (Nat → Int32)) (y1 : Int32) (y2 : Int32) : Option ((Int32 × Int32) ⊕ (Int32)) :=
  (if (g_shr (32 : Int32) p1) ≤ y2 then some (.inr y1) else ((m_X2_isFreeRun c_a (g_shl y2 p1) p1).bind fun x6 => (if x6 = (0 : Int32) then some (.inl (y1, (y2 + (1 : Int32)))) else some (.inl ((y1 + (1 : Int32)), (y2 + (1 : Int32)))))))
def m_X2_freeRunsOf (c_a : (Nat → Int32)) (p1 : Int32) : Option (Int32) :=
  ((g_loop (fun q => m_X2_freeRunsOf_L4 p1 c_a q.1 q.2) 1000 ((0 : Int32), (0 : Int32))).bind (g_k1 fun z3 => some z3))
def m_X4_goUp_L2  (y1 : Int32) (f2 : (Nat → Int32)) : Option ((Int32 × (Nat → Int32)) ⊕ ((Nat → Int32))) :=
  (if (4 : Int32) ≤ y1 then some (.inr f2) else ((g_ast 4 f2 y1 (-1 : Int32)).bind fun f6 => some (.inl ((y1 + (1 : Int32)), f6))))
def m_X4_goUp (c_ha : (Nat → Int32)) (c_up : Int32) (c_fu : Int32)  : Option ((Nat → Int32) × Int32 × Int32) :=
  ((g_loop (fun q => m_X4_goUp_L2 q.1 q.2) 1000 ((0 : Int32), c_ha)).bind (g_k1 fun f3 => some (f3, (1 : Int32), (-1 : Int32))))
def m_X4_startAfresh (c_ha : (Nat → Int32)) (c_da : (Nat → Int32)) (c_ma : (Nat → Int32)) (c_up : Int32) (c_fu : Int32)  : Option ((Nat → Int32) × (Nat → Int32) × (Nat → Int32) × Int32 × Int32) :=
  ((m_X1_clear c_da).bind fun f1 => ((m_X2_copyFrom c_ma f1).bind fun f3 => ((m_X4_goUp c_ha c_up c_fu).bind (g_k3 fun f5 f6 f7 => some (f5, f1, f3, f6, f7)))))
def m_X4_format (c_ha : (Nat → Int32)) (c_da : (Nat → Int32)) (c_ma : (Nat → Int32)) (c_up : Int32) (c_fu : Int32)  : Option ((Nat → Int32) × (Nat → Int32) × (Nat → Int32) × Int32 × Int32) :=
  ((m_X4_startAfresh c_ha c_da c_ma c_up c_fu).bind (g_k5 fun f1 f2 f3 f4 f5 => some (f1, f2, f3, f4, f5)))
def m_X4_isName  (p0 : Int32) : Option (Int32) :=
  (if p0 < (1 : Int32) then some (0 : Int32) else (if (99 : Int32) < p0 then some (0 : Int32) else some (1 : Int32)))
def m_X4_isOwner  (p0 : Int32) : Option (Int32) :=
  (if p0 < (0 : Int32) then some (0 : Int32) else (if (3 : Int32) ≤ p0 then some (0 : Int32) else some (1 : Int32)))
def m_X4_create (c_ma : (Nat → Int32)) (c_up : Int32) (p1 : Int32) (p2 : Int32) : Option (Int32 × (Nat → Int32)) :=
  (if c_up = (0 : Int32) then some ((-11 : Int32), c_ma) else ((m_X4_isName p1).bind fun x2 => (if x2 = (0 : Int32) then some ((-12 : Int32), c_ma) else ((m_X4_isOwner p2).bind fun x4 => (if x4 = (0 : Int32) then some ((-12 : Int32), c_ma) else ((m_X2_slotOf c_ma p1).bind fun x6 => (if x6 = (-1 : Int32) then ((m_X2_emptySlot c_ma).bind fun x8 => (if x8 = (-1 : Int32) then some ((-2 : Int32), c_ma) else ((m_X2_makeFile c_ma x8 p1 p2).bind fun f10 => some (x8, f10)))) else some ((-1 : Int32), c_ma))))))))
def m_X4_isInUse_L2 (p1 : Int32) (c_ha : (Nat → Int32)) (y1 : Int32) : Option ((Int32) ⊕ ((Int32) ⊕ (Unit))) :=
  (if (4 : Int32) ≤ y1 then some (.inr (.inr ())) else ((g_ald 4 c_ha y1).bind fun x4 => (if x4 = p1 then some (.inr (.inl (1 : Int32))) else some (.inl (y1 + (1 : Int32))))))
def m_X4_isInUse (c_ha : (Nat → Int32)) (p1 : Int32) : Option (Int32) :=
  ((g_loop (fun q => m_X4_isInUse_L2 p1 c_ha q) 1000 (0 : Int32)).bind (g_sk (fun v => some v) (g_k0 (some (0 : Int32)))))
def m_X4_unlink (c_ha : (Nat → Int32)) (c_ma : (Nat → Int32)) (c_up : Int32) (p1 : Int32) : Option (Int32 × (Nat → Int32)) :=
  (if c_up = (0 : Int32) then some ((-11 : Int32), c_ma) else ((m_X2_slotOf c_ma p1).bind fun x2 => (if x2 = (-1 : Int32) then some ((-3 : Int32), c_ma) else ((m_X4_isInUse c_ha x2).bind fun x4 => (if x4 = (0 : Int32) then ((m_X2_dropFile c_ma x2).bind fun f6 => some ((0 : Int32), f6)) else some ((-4 : Int32), c_ma))))))
def m_X4_closedHandle_L2 (c_ha : (Nat → Int32)) (y1 : Int32) : Option ((Int32) ⊕ ((Int32) ⊕ (Unit))) :=
  (if (4 : Int32) ≤ y1 then some (.inr (.inr ())) else ((g_ald 4 c_ha y1).bind fun x4 => (if x4 = (-1 : Int32) then some (.inr (.inl y1)) else some (.inl (y1 + (1 : Int32))))))
def m_X4_closedHandle (c_ha : (Nat → Int32))  : Option (Int32) :=
  ((g_loop (fun q => m_X4_closedHandle_L2 c_ha q) 1000 (0 : Int32)).bind (g_sk (fun v => some v) (g_k0 (some (-1 : Int32)))))
def m_X4_open (c_ha : (Nat → Int32)) (c_ma : (Nat → Int32)) (c_up : Int32) (p1 : Int32) : Option (Int32 × (Nat → Int32)) :=
  (if c_up = (0 : Int32) then some ((-11 : Int32), c_ha) else ((m_X2_slotOf c_ma p1).bind fun x2 => (if x2 = (-1 : Int32) then some ((-3 : Int32), c_ha) else ((m_X4_closedHandle c_ha).bind fun x4 => (if x4 = (-1 : Int32) then some ((-5 : Int32), c_ha) else ((g_ast 4 c_ha x4 x2).bind fun f6 => some (x4, f6)))))))
def m_X4_isOpen (c_ha : (Nat → Int32)) (p1 : Int32) : Option (Int32) :=
  (if p1 < (0 : Int32) then some (0 : Int32) else (if (4 : Int32) ≤ p1 then some (0 : Int32) else ((g_ald 4 c_ha p1).bind fun x3 => (if x3 = (-1 : Int32) then some (0 : Int32) else some (1 : Int32)))))
def m_X4_close (c_ha : (Nat → Int32)) (c_up : Int32) (p1 : Int32) : Option (Int32 × (Nat → Int32)) :=
  (if c_up = (0 : Int32) then some ((-11 : Int32), c_ha) else ((m_X4_isOpen c_ha p1).bind fun x2 => (if x2 = (0 : Int32) then some ((-6 : Int32), c_ha) else ((g_ast 4 c_ha p1 (-1 : Int32)).bind fun f4 => some ((0 : Int32), f4)))))
def m_X4_write (c_ha : (Nat → Int32)) (c_ma : (Nat → Int32)) (c_up : Int32) (p1 : Int32) (p2 : Int32) (p3 : Int32) : Option (Int32 × (Nat → Int32)) :=
  (if c_up = (0 : Int32) then some ((-11 : Int32), c_ma) else ((m_X4_isOpen c_ha p1).bind fun x2 => (if x2 = (0 : Int32) then some ((-6 : Int32), c_ma) else (if p2 < (0 : Int32) then some ((-7 : Int32), c_ma) else (if p2 < (64 : Int32) then ((g_ald 4 c_ha p1).bind fun x6 => ((m_X2_lengthOf c_ma x6).bind fun x7 => (if p2 < x7 then ((m_X2_putWord c_ma x6 p2 p3).bind fun f9 => some ((0 : Int32), f9)) else ((m_X2_grow c_ma x6 (p2 + (1 : Int32))).bind (g_k2 fun x11 f12 => (if x11 = (0 : Int32) then ((m_X2_putWord f12 x6 p2 p3).bind fun f15 => some ((0 : Int32), f15)) else some (x11, f12))))))) else some ((-7 : Int32), c_ma))))))
def m_X4_read (c_ha : (Nat → Int32)) (c_ma : (Nat → Int32)) (c_up : Int32) (p1 : Int32) (p2 : Int32) : Option (Int32) :=
  (if c_up = (0 : Int32) then some (0 : Int32) else ((m_X4_isOpen c_ha p1).bind fun x2 => (if x2 = (0 : Int32) then some (0 : Int32) else ((g_ald 4 c_ha p1).bind fun x4 => (if p2 < (0 : Int32) then some (0 : Int32) else ((m_X2_lengthOf c_ma x4).bind fun x6 => (if p2 < x6 then ((m_X2_wordAt c_ma x4 p2).bind fun x8 => some x8) else some (0 : Int32))))))))
def m_X4_truncate (c_ha : (Nat → Int32)) (c_ma : (Nat → Int32)) (c_up : Int32) (p1 : Int32) (p2 : Int32) : Option (Int32 × (Nat → Int32)) :=
  (if c_up = (0 : Int32) then some ((-11 : Int32), c_ma) else ((m_X4_isOpen c_ha p1).bind fun x2 => (if x2 = (0 : Int32) then some ((-6 : Int32), c_ma) else (if p2 < (0 : Int32) then some ((-7 : Int32), c_ma) else (if p2 ≤ (64 : Int32) then ((g_ald 4 c_ha p1).bind fun x6 => ((m_X2_lengthOf c_ma x6).bind fun x7 => (if p2 ≤ x7 then ((m_X2_shrink c_ma x6 p2).bind fun f9 => some ((0 : Int32), f9)) else ((m_X2_grow c_ma x6 p2).bind (g_k2 fun x11 f12 => some (x11, f12)))))) else some ((-7 : Int32), c_ma))))))
def m_X4_length (c_ha : (Nat → Int32)) (c_ma : (Nat → Int32)) (c_up : Int32) (p1 : Int32) : Option (Int32) :=
  (if c_up = (0 : Int32) then some (-11 : Int32) else ((m_X4_isOpen c_ha p1).bind fun x2 => (if x2 = (0 : Int32) then some (-6 : Int32) else ((g_ald 4 c_ha p1).bind fun x4 => ((m_X2_lengthOf c_ma x4).bind fun x5 => some x5)))))
def m_X4_extent (c_ha : (Nat → Int32)) (c_ma : (Nat → Int32)) (c_up : Int32) (p1 : Int32) (p2 : Int32) : Option (Int32) :=
  (if c_up = (0 : Int32) then some (-11 : Int32) else ((m_X4_isOpen c_ha p1).bind fun x2 => (if x2 = (0 : Int32) then some (-6 : Int32) else (if p2 < (0 : Int32) then some (-12 : Int32) else (if p2 < (4 : Int32) then ((g_ald 4 c_ha p1).bind fun x6 => ((m_X2_extentOf c_ma x6 p2).bind fun x7 => some x7)) else some (-12 : Int32))))))
def m_X4_rename (c_ha : (Nat → Int32)) (c_ma : (Nat → Int32)) (c_up : Int32) (p1 : Int32) (p2 : Int32) : Option (Int32 × (Nat → Int32)) :=
  (if c_up = (0 : Int32) then some ((-11 : Int32), c_ma) else ((m_X2_slotOf c_ma p1).bind fun x2 => (if x2 = (-1 : Int32) then some ((-3 : Int32), c_ma) else ((m_X4_isName p2).bind fun x4 => (if x4 = (0 : Int32) then some ((-12 : Int32), c_ma) else (if p1 = p2 then some ((0 : Int32), c_ma) else ((m_X2_slotOf c_ma p2).bind fun x7 => (if x7 = (-1 : Int32) then ((m_X2_nameFile c_ma x2 p2).bind fun f9 => some ((0 : Int32), f9)) else ((m_X4_isInUse c_ha x7).bind fun x11 => (if x11 = (0 : Int32) then ((m_X2_dropFile c_ma x7).bind fun f13 => ((m_X2_nameFile f13 x2 p2).bind fun f15 => some ((0 : Int32), f15))) else some ((-4 : Int32), c_ma)))))))))))
def m_X4_setQuota (c_ma : (Nat → Int32)) (c_up : Int32) (p1 : Int32) (p2 : Int32) : Option (Int32 × (Nat → Int32)) :=
  (if c_up = (0 : Int32) then some ((-11 : Int32), c_ma) else ((m_X4_isOwner p1).bind fun x2 => (if x2 = (0 : Int32) then some ((-12 : Int32), c_ma) else (if p2 < (0 : Int32) then some ((-12 : Int32), c_ma) else (if p2 ≤ (32 : Int32) then ((m_X2_usageOf c_ma p1).bind fun x6 => (if x6 ≤ p2 then ((m_X2_putQuota c_ma p1 p2).bind fun f8 => some ((0 : Int32), f8)) else some ((-10 : Int32), c_ma))) else some ((-12 : Int32), c_ma))))))
def m_X4_usage (c_ma : (Nat → Int32)) (c_up : Int32) (p1 : Int32) : Option (Int32) :=
  (if c_up = (0 : Int32) then some (-11 : Int32) else ((m_X4_isOwner p1).bind fun x2 => (if x2 = (0 : Int32) then some (-12 : Int32) else ((m_X2_usageOf c_ma p1).bind fun x4 => some x4))))
def m_X4_free (c_ma : (Nat → Int32)) (c_up : Int32) (p1 : Int32) : Option (Int32) :=
  (if c_up = (0 : Int32) then some (-11 : Int32) else (if p1 < (0 : Int32) then some (-12 : Int32) else (if p1 ≤ (5 : Int32) then ((m_X2_freeRunsOf c_ma p1).bind fun x4 => some x4) else some (-12 : Int32))))
def m_X4_isChanged (c_da : (Nat → Int32)) (c_ma : (Nat → Int32)) (p1 : Int32) : Option (Int32) :=
  ((g_ald 332 c_da p1).bind fun x1 => ((g_ald 110 c_ma p1).bind fun x2 => (if x1 = x2 then some (0 : Int32) else some (1 : Int32))))
def m_X4_countChanges_L4 (c_da : (Nat → Int32)) (c_ma : (Nat → Int32)) (y1 : Int32) (y2 : Int32) : Option ((Int32 × Int32) ⊕ (Int32)) :=
  (if (110 : Int32) ≤ y2 then some (.inr y1) else ((m_X4_isChanged c_da c_ma y2).bind fun x6 => (if x6 = (0 : Int32) then some (.inl (y1, (y2 + (1 : Int32)))) else some (.inl ((y1 + (1 : Int32)), (y2 + (1 : Int32)))))))
def m_X4_countChanges (c_da : (Nat → Int32)) (c_ma : (Nat → Int32))  : Option (Int32) :=
  ((g_loop (fun q => m_X4_countChanges_L4 c_da c_ma q.1 q.2) 1000 ((0 : Int32), (0 : Int32))).bind (g_k1 fun z3 => some z3))
def m_X4_writeCell (c_da : (Nat → Int32)) (c_fu : Int32) (p1 : Int32) (p2 : Int32) : Option (Int32 × (Nat → Int32) × Int32) :=
  (if c_fu = (0 : Int32) then some ((0 : Int32), c_da, c_fu) else (if c_fu ≤ (0 : Int32) then ((g_ast 332 c_da p1 p2).bind fun f3 => some ((1 : Int32), f3, c_fu)) else ((g_ast 332 c_da p1 p2).bind fun f6 => some ((1 : Int32), f6, (c_fu - (1 : Int32))))))
def m_X4_writeJournal_L8 (c_ma : (Nat → Int32)) (y1 : Int32) (y2 : Int32) (y3 : Int32) (f4 : (Nat → Int32)) (f5 : Int32) : Option ((Int32 × Int32 × Int32 × (Nat → Int32) × Int32) ⊕ ((Int32 × (Nat → Int32) × Int32) ⊕ (Int32 × (Nat → Int32) × Int32))) :=
  (if (110 : Int32) ≤ y3 then some (.inr (.inr (y1, f4, f5))) else ((m_X4_isChanged f4 c_ma y3).bind fun x11 => (if x11 = (0 : Int32) then some (.inl (y1, y2, (y3 + (1 : Int32)), f4, f5)) else ((g_ald 110 c_ma y3).bind fun x13 => ((m_X4_writeCell f4 f5 y2 y3).bind (g_k3 fun x14 f15 f16 => (if x14 = (0 : Int32) then some (.inr (.inl ((0 : Int32), f15, f16))) else ((m_X4_writeCell f15 f16 (y2 + (1 : Int32)) x13).bind (g_k3 fun x19 f20 f21 => (if x19 = (0 : Int32) then some (.inr (.inl ((0 : Int32), f20, f21))) else ((m_X1_nextCheck y1 y3 x13).bind fun x24 => some (.inl (x24, (y2 + (2 : Int32)), (y3 + (1 : Int32)), f20, f21)))))))))))))
def m_X4_writeJournal (c_da : (Nat → Int32)) (c_ma : (Nat → Int32)) (c_fu : Int32) (p1 : Int32) : Option (Int32 × (Nat → Int32) × Int32) :=
  ((g_loop (fun q => m_X4_writeJournal_L8 c_ma q.1 q.2.1 q.2.2.1 q.2.2.2.1 q.2.2.2.2) 1000 (p1, (112 : Int32), (0 : Int32), c_da, c_fu)).bind (g_sk (fun v => some v) (g_k3 fun z6 f7 f8 => ((m_X4_writeCell f7 f8 (111 : Int32) z6).bind (g_k3 fun x25 f26 f27 => (if x25 = (0 : Int32) then some ((0 : Int32), f26, f27) else ((m_X4_writeCell f26 f27 (110 : Int32) p1).bind (g_k3 fun x30 f31 f32 => (if x30 = (0 : Int32) then some ((0 : Int32), f31, f32) else some ((1 : Int32), f31, f32))))))))))
def m_X4_writeHome_L2 (c_ma : (Nat → Int32)) (y1 : Int32) (f2 : (Nat → Int32)) (f3 : Int32) : Option ((Int32 × (Nat → Int32) × Int32) ⊕ ((Int32 × (Nat → Int32) × Int32) ⊕ ((Nat → Int32) × Int32))) :=
  (if (110 : Int32) ≤ y1 then some (.inr (.inr (f2, f3))) else ((m_X4_isChanged f2 c_ma y1).bind fun x8 => (if x8 = (0 : Int32) then some (.inl ((y1 + (1 : Int32)), f2, f3)) else ((g_ald 110 c_ma y1).bind fun x10 => ((m_X4_writeCell f2 f3 y1 x10).bind (g_k3 fun x11 f12 f13 => (if x11 = (0 : Int32) then some (.inr (.inl ((0 : Int32), f12, f13))) else some (.inl ((y1 + (1 : Int32)), f12, f13)))))))))
def m_X4_writeHome (c_da : (Nat → Int32)) (c_ma : (Nat → Int32)) (c_fu : Int32)  : Option (Int32 × (Nat → Int32) × Int32) :=
  ((g_loop (fun q => m_X4_writeHome_L2 c_ma q.1 q.2.1 q.2.2) 1000 ((0 : Int32), c_da, c_fu)).bind (g_sk (fun v => some v) (g_k2 fun f4 f5 => some ((1 : Int32), f4, f5))))
def m_X4_sync (c_da : (Nat → Int32)) (c_ma : (Nat → Int32)) (c_up : Int32) (c_fu : Int32)  : Option (Int32 × (Nat → Int32) × Int32 × Int32) :=
  (if c_up = (0 : Int32) then some ((-11 : Int32), c_da, c_up, c_fu) else ((m_X4_countChanges c_da c_ma).bind fun x2 => (if x2 = (0 : Int32) then some ((0 : Int32), c_da, c_up, c_fu) else ((m_X4_writeJournal c_da c_ma c_fu x2).bind (g_k3 fun x4 f5 f6 => (if x4 = (0 : Int32) then some ((-11 : Int32), f5, (0 : Int32), f6) else ((m_X4_writeHome f5 c_ma f6).bind (g_k3 fun x10 f11 f12 => (if x10 = (0 : Int32) then some ((-11 : Int32), f11, (0 : Int32), f12) else ((m_X4_writeCell f11 f12 (110 : Int32) (0 : Int32)).bind (g_k3 fun x16 f17 f18 => (if x16 = (0 : Int32) then some ((-11 : Int32), f17, (0 : Int32), f18) else some (x2, f17, c_up, f18)))))))))))))
def m_X4_crashAfter (c_up : Int32) (c_fu : Int32) (p1 : Int32) : Option (Int32 × Int32) :=
  (if c_up = (0 : Int32) then some ((0 : Int32), c_fu) else (if (-1 : Int32) ≤ p1 then some ((1 : Int32), p1) else some ((0 : Int32), c_fu)))
def m_X4_mount (c_ha : (Nat → Int32)) (c_da : (Nat → Int32)) (c_ma : (Nat → Int32)) (c_ja : (Nat → Int32)) (c_up : Int32) (c_fu : Int32)  : Option (Int32 × (Nat → Int32) × (Nat → Int32) × (Nat → Int32) × (Nat → Int32) × Int32 × Int32) :=
  (if c_up = (0 : Int32) then ((m_X1_journalHolds c_da).bind fun x2 => ((if x2 = (0 : Int32) then some c_da else ((m_X1_replayJournal c_da).bind fun f16 => some f16)).bind (g_k1 fun f3 => ((m_X2_copyFrom c_ja f3).bind fun f5 => ((m_X0_leastBroken f5).bind fun x7 => (if x7 = (0 : Int32) then ((m_X2_copyFrom c_ma f3).bind fun f9 => ((m_X4_goUp c_ha c_up c_fu).bind (g_k3 fun f11 f12 f13 => some ((0 : Int32), f11, f3, f9, f5, f12, f13)))) else some ((-13 : Int32), c_ha, f3, c_ma, f5, c_up, c_fu))))))) else some ((-4 : Int32), c_ha, c_da, c_ma, c_ja, c_up, c_fu))
def m_X4_corrupt (c_da : (Nat → Int32)) (c_up : Int32) (p1 : Int32) (p2 : Int32) : Option (Int32 × (Nat → Int32)) :=
  (if c_up = (0 : Int32) then (if p1 < (0 : Int32) then some ((0 : Int32), c_da) else (if p1 < (332 : Int32) then ((g_ast 332 c_da p1 p2).bind fun f4 => some ((1 : Int32), f4)) else some ((0 : Int32), c_da))) else some ((0 : Int32), c_da))
def m_X4_fsck (c_da : (Nat → Int32)) (c_ja : (Nat → Int32))  : Option (Int32 × (Nat → Int32)) :=
  ((m_X2_copyFrom c_ja c_da).bind fun f1 => ((m_X1_journalHolds c_da).bind fun x3 => (if x3 = (0 : Int32) then ((m_X0_leastBroken f1).bind fun x5 => some (x5, f1)) else ((m_X1_replayInto c_da f1).bind fun f6 => ((m_X0_leastBroken f6).bind fun x8 => some (x8, f6))))))
def m_X4_peek (c_da : (Nat → Int32)) (p1 : Int32) : Option (Int32) :=
  (if p1 < (0 : Int32) then some (0 : Int32) else (if p1 < (332 : Int32) then ((g_ald 332 c_da p1).bind fun x3 => some x3) else some (0 : Int32)))
def m_X5_within  (p0 : Int32) (p1 : Int32) (p2 : Int32) : Option (Int32) :=
  (if p0 < p1 then some (0 : Int32) else (if p2 < p0 then some (0 : Int32) else some (1 : Int32)))
def m_X5_format_L2  (y1 : Int32) (f2 : (Nat → Int32)) : Option ((Int32 × (Nat → Int32)) ⊕ ((Nat → Int32))) :=
  (if (332 : Int32) ≤ y1 then some (.inr f2) else ((m_X5_within y1 (42 : Int32) (44 : Int32)).bind fun x6 => (if x6 = (0 : Int32) then ((g_ast 332 f2 y1 (0 : Int32)).bind fun f8 => some (.inl ((y1 + (1 : Int32)), f8))) else ((g_ast 332 f2 y1 (32 : Int32)).bind fun f10 => some (.inl ((y1 + (1 : Int32)), f10))))))
def m_X5_format_L40 (f3 : (Nat → Int32)) (y12 : Int32) (f13 : (Nat → Int32)) : Option ((Int32 × (Nat → Int32)) ⊕ ((Nat → Int32))) :=
  (if (110 : Int32) ≤ y12 then some (.inr f13) else ((g_ald 332 f3 y12).bind fun x17 => ((g_ast 110 f13 y12 x17).bind fun f18 => some (.inl ((y12 + (1 : Int32)), f18)))))
def m_X5_format_L76  (y22 : Int32) (f23 : (Nat → Int32)) : Option ((Int32 × (Nat → Int32)) ⊕ ((Nat → Int32))) :=
  (if (4 : Int32) ≤ y22 then some (.inr f23) else ((g_ast 4 f23 y22 (0 : Int32)).bind fun f27 => some (.inl ((y22 + (1 : Int32)), f27))))
def m_X5_format (c_da : (Nat → Int32)) (c_ma : (Nat → Int32)) (c_ha : (Nat → Int32)) (c_up : Int32) (c_fu : Int32)  : Option ((Nat → Int32) × (Nat → Int32) × (Nat → Int32) × Int32 × Int32) :=
  ((g_loop (fun q => m_X5_format_L2 q.1 q.2) 1000 ((0 : Int32), c_da)).bind (g_k1 fun f3 => ((g_loop (fun q => m_X5_format_L40 f3 q.1 q.2) 1000 ((0 : Int32), c_ma)).bind (g_k1 fun f14 => ((g_loop (fun q => m_X5_format_L76 q.1 q.2) 1000 ((0 : Int32), c_ha)).bind (g_k1 fun f24 => some (f3, f14, f24, (1 : Int32), (-1 : Int32))))))))
def m_X5_start  (p0 : Int32) : Option (Int32) :=
  some (g_modc (p0 - (1 : Int32)) (32 : Int32))
def m_X5_order  (p0 : Int32) : Option (Int32) :=
  some ((p0 - (1 : Int32)) / (32 : Int32))
def m_X5_size  (p0 : Int32) : Option (Int32) :=
  (if p0 = (0 : Int32) then some (0 : Int32) else ((m_X5_order p0).bind fun x2 => some (g_shl (1 : Int32) x2)))
def m_X5_isRun  (p0 : Int32) : Option (Int32) :=
  ((m_X5_within p0 (1 : Int32) (192 : Int32)).bind fun x1 => (if x1 = (0 : Int32) then some (0 : Int32) else ((m_X5_start p0).bind fun x3 => ((m_X5_order p0).bind fun x4 => ((g_rem x3 (g_shl (1 : Int32) x4)).bind fun x5 => (if x5 = (0 : Int32) then ((m_X5_start p0).bind fun x7 => ((m_X5_order p0).bind fun x8 => (if (32 : Int32) < (x7 + (g_shl (1 : Int32) x8)) then some (0 : Int32) else some (1 : Int32)))) else some (0 : Int32)))))))
def m_X5_allFree_L5 (p0 : Int32) (p1 : Int32) (p2 : Int32) (y1 : Int32) (y2 : Int32) : Option ((Int32 × Int32) ⊕ (Int32)) :=
  (if (p1 + (g_shl (1 : Int32) p2)) ≤ y2 then some (.inr y1) else (if y1 = (0 : Int32) then some (.inl ((0 : Int32), (y2 + (1 : Int32)))) else (if ((g_ushr p0 y2) &&& (1 : Int32)) = (0 : Int32) then some (.inl ((1 : Int32), (y2 + (1 : Int32)))) else some (.inl ((0 : Int32), (y2 + (1 : Int32)))))))
def m_X5_allFree  (p0 : Int32) (p1 : Int32) (p2 : Int32) : Option (Int32) :=
  ((g_loop (fun q => m_X5_allFree_L5 p0 p1 p2 q.1 q.2) 1000 ((1 : Int32), p1)).bind (g_k1 fun z3 => ((g_bool z3).bind fun x8 => some x8)))
def m_X5_isFree  (p0 : Int32) (p1 : Int32) (p2 : Int32) : Option (Int32) :=
  ((m_X5_allFree p0 p1 p2).bind fun x1 => (if x1 = (0 : Int32) then some (0 : Int32) else (if p2 = (5 : Int32) then some (1 : Int32) else ((g_div p1 (g_shl (2 : Int32) p2)).bind fun x4 => ((m_X5_allFree p0 (x4 * (g_shl (2 : Int32) p2)) (p2 + (1 : Int32))).bind fun x5 => (if x5 = (0 : Int32) then some (1 : Int32) else some (0 : Int32)))))))
def m_X5_countFree_L4 (p0 : Int32) (p1 : Int32) (y1 : Int32) (y2 : Int32) : Option ((Int32 × Int32) ⊕ (Int32)) :=
  (if (32 : Int32) ≤ y2 then some (.inr y1) else ((m_X5_isFree p0 y2 p1).bind fun x6 => (if x6 = (0 : Int32) then some (.inl (y1, (y2 + (g_shl (1 : Int32) p1)))) else some (.inl ((y1 + (1 : Int32)), (y2 + (g_shl (1 : Int32) p1)))))))
def m_X5_countFree  (p0 : Int32) (p1 : Int32) : Option (Int32) :=
  ((g_loop (fun q => m_X5_countFree_L4 p0 p1 q.1 q.2) 1000 ((0 : Int32), (0 : Int32))).bind (g_k1 fun z3 => some z3))
def m_X5_place_L9 (p0 : Int32) (y1 : Int32) (y4 : Int32) : Option ((Int32) ⊕ ((Int32) ⊕ (Unit))) :=
  (if (32 : Int32) ≤ y4 then some (.inr (.inr ())) else ((m_X5_isFree p0 y4 y1).bind fun x7 => (if x7 = (0 : Int32) then some (.inl (y4 + (g_shl (1 : Int32) y1))) else some (.inr (.inl y4)))))
def m_X5_place_L2 (p0 : Int32) (y1 : Int32) : Option ((Int32) ⊕ ((Int32) ⊕ (Unit))) :=
  (if (5 : Int32) < y1 then some (.inr (.inr ())) else ((g_loop (fun q => m_X5_place_L9 p0 y1 q) 1000 (0 : Int32)).bind (g_sk (fun v => some (.inr (.inl v))) (g_k0 (some (.inl (y1 + (1 : Int32))))))))
def m_X5_place  (p0 : Int32) (p1 : Int32) : Option (Int32) :=
  ((g_loop (fun q => m_X5_place_L2 p0 q) 1000 p1).bind (g_sk (fun v => some v) (g_k0 (some (-1 : Int32)))))
def m_X5_bits_L4 (p0 : Int32) (p1 : Int32) (y1 : Int32) (y2 : Int32) : Option ((Int32 × Int32) ⊕ (Int32)) :=
  (if (p0 + (g_shl (1 : Int32) p1)) ≤ y2 then some (.inr y1) else some (.inl ((y1 ||| (g_shl (1 : Int32) y2)), (y2 + (1 : Int32)))))
def m_X5_bits  (p0 : Int32) (p1 : Int32) : Option (Int32) :=
  ((g_loop (fun q => m_X5_bits_L4 p0 p1 q.1 q.2) 1000 ((0 : Int32), p0)).bind (g_k1 fun z3 => some z3))
def m_X5_extentOf (c_ma : (Nat → Int32)) (p1 : Int32) (p2 : Int32) : Option (Int32) :=
  ((g_ald 110 c_ma ((((7 : Int32) * p1) + (3 : Int32)) + p2)).bind fun x1 => some x1)
def m_X5_blocks_L4 (p1 : Int32) (c_ma : (Nat → Int32)) (y1 : Int32) (y2 : Int32) : Option ((Int32 × Int32) ⊕ (Int32)) :=
  (if (4 : Int32) ≤ y2 then some (.inr y1) else ((m_X5_extentOf c_ma p1 y2).bind fun x6 => ((m_X5_size x6).bind fun x7 => some (.inl ((y1 + x7), (y2 + (1 : Int32)))))))
def m_X5_blocks (c_ma : (Nat → Int32)) (p1 : Int32) : Option (Int32) :=
  ((g_loop (fun q => m_X5_blocks_L4 p1 c_ma q.1 q.2) 1000 ((0 : Int32), (0 : Int32))).bind (g_k1 fun z3 => some z3))
def m_X5_runs_L2 (p1 : Int32) (c_ma : (Nat → Int32)) (y1 : Int32) : Option ((Int32) ⊕ (Int32)) :=
  (if (4 : Int32) ≤ y1 then some (.inr y1) else ((m_X5_extentOf c_ma p1 y1).bind fun x5 => (if x5 ≤ (0 : Int32) then some (.inr y1) else some (.inl (y1 + (1 : Int32))))))
def m_X5_runs (c_ma : (Nat → Int32)) (p1 : Int32) : Option (Int32) :=
  ((g_loop (fun q => m_X5_runs_L2 p1 c_ma q) 1000 (0 : Int32)).bind (g_k1 fun z2 => some z2))
def m_X5_used_L4 (p1 : Int32) (c_ma : (Nat → Int32)) (y1 : Int32) (y2 : Int32) : Option ((Int32 × Int32) ⊕ (Int32)) :=
  (if (6 : Int32) ≤ y2 then some (.inr y1) else ((g_ald 110 c_ma ((7 : Int32) * y2)).bind fun x6 => (if x6 ≤ (0 : Int32) then some (.inl (y1, (y2 + (1 : Int32)))) else ((g_ald 110 c_ma (((7 : Int32) * y2) + (1 : Int32))).bind fun x8 => (if x8 = p1 then ((m_X5_blocks c_ma y2).bind fun x10 => some (.inl ((y1 + x10), (y2 + (1 : Int32))))) else some (.inl (y1, (y2 + (1 : Int32)))))))))
def m_X5_used (c_ma : (Nat → Int32)) (p1 : Int32) : Option (Int32) :=
  ((g_loop (fun q => m_X5_used_L4 p1 c_ma q.1 q.2) 1000 ((0 : Int32), (0 : Int32))).bind (g_k1 fun z3 => some z3))
def m_X5_slotOf_L2 (p1 : Int32) (c_ma : (Nat → Int32)) (y1 : Int32) : Option ((Int32) ⊕ ((Int32) ⊕ (Unit))) :=
  (if (6 : Int32) ≤ y1 then some (.inr (.inr ())) else (if p1 ≤ (0 : Int32) then some (.inl (y1 + (1 : Int32))) else ((g_ald 110 c_ma ((7 : Int32) * y1)).bind fun x5 => (if x5 = p1 then some (.inr (.inl y1)) else some (.inl (y1 + (1 : Int32)))))))
def m_X5_slotOf (c_ma : (Nat → Int32)) (p1 : Int32) : Option (Int32) :=
  ((g_loop (fun q => m_X5_slotOf_L2 p1 c_ma q) 1000 (0 : Int32)).bind (g_sk (fun v => some v) (g_k0 (some (-1 : Int32)))))
def m_X5_wordCell_L5 (p1 : Int32) (c_ma : (Nat → Int32)) (y1 : Int32) (y2 : Int32) : Option ((Int32 × Int32) ⊕ ((Int32) ⊕ (Unit))) :=
  (if (4 : Int32) ≤ y2 then some (.inr (.inr ())) else ((m_X5_extentOf c_ma p1 y2).bind fun x5 => ((m_X5_size x5).bind fun x6 => (if ((2 : Int32) * x6) ≤ y1 then some (.inl ((y1 - ((2 : Int32) * x6)), (y2 + (1 : Int32)))) else ((m_X5_start x5).bind fun x8 => some (.inr (.inl (((46 : Int32) + ((2 : Int32) * x8)) + y1))))))))
def m_X5_wordCell (c_ma : (Nat → Int32)) (p1 : Int32) (p2 : Int32) : Option (Int32) :=
  ((g_loop (fun q => m_X5_wordCell_L5 p1 c_ma q.1 q.2) 1000 (p2, (0 : Int32))).bind (g_sk (fun v => some v) (g_k0 (some (46 : Int32)))))
def m_X5_tryGrow_L36 (p1 : Int32) (c_ma : (Nat → Int32)) (y6 : Int32) (f7 : (Nat → Int32)) : Option ((Int32 × (Nat → Int32)) ⊕ ((Nat → Int32))) :=
  (if (4 : Int32) ≤ y6 then some (.inr f7) else ((m_X5_extentOf c_ma p1 y6).bind fun x11 => ((g_ast 4 f7 y6 x11).bind fun f12 => some (.inl ((y6 + (1 : Int32)), f12)))))
def m_X5_tryGrow_L71 (p2 : Int32) (y14 : Int32) (y24 : Int32) : Option ((Int32) ⊕ (Int32)) :=
  (if (((p2 + (1 : Int32)) / (2 : Int32)) - y14) ≤ (g_shl (1 : Int32) y24) then some (.inr y24) else some (.inl (y24 + (1 : Int32))))
def m_X5_tryGrow_L88 (f16 : Int32) (y28 : Int32) : Option ((Int32) ⊕ (Int32)) :=
  (if y28 < (0 : Int32) then some (.inr y28) else ((m_X5_place f16 y28).bind fun x32 => (if (0 : Int32) ≤ x32 then some (.inr y28) else some (.inl (y28 + (-1 : Int32))))))
def m_X5_tryGrow_L62 (p2 : Int32) (y14 : Int32) (f15 : (Nat → Int32)) (f16 : Int32) (f17 : Int32) : Option ((Int32 × (Nat → Int32) × Int32 × Int32) ⊕ ((Int32 × (Nat → Int32) × Int32 × Int32) ⊕ (Int32 × (Nat → Int32) × Int32 × Int32))) :=
  (if ((p2 + (1 : Int32)) / (2 : Int32)) ≤ y14 then some (.inr (.inr (y14, f15, f16, f17))) else ((g_loop (fun q => m_X5_tryGrow_L71 p2 y14 q) 1000 (0 : Int32)).bind (g_k1 fun z25 => ((g_loop (fun q => m_X5_tryGrow_L88 f16 q) 1000 z25).bind (g_k1 fun z29 => (if f17 = (4 : Int32) then some (.inr (.inl ((-8 : Int32), f15, f16, f17))) else (if (0 : Int32) ≤ z29 then ((m_X5_place f16 z29).bind fun x36 => ((g_ast 4 f15 f17 (((1 : Int32) + x36) + ((32 : Int32) * z29))).bind fun f37 => ((m_X5_bits x36 z29).bind fun x40 => some (.inl ((y14 + (g_shl (1 : Int32) z29)), f37, (f16 ||| x40), (f17 + (1 : Int32))))))) else some (.inr (.inl ((-8 : Int32), f15, f16, f17))))))))))
def m_X5_tryGrow (c_ma : (Nat → Int32)) (c_te : (Nat → Int32)) (c_tm : Int32) (c_tc : Int32) (p1 : Int32) (p2 : Int32) : Option (Int32 × (Nat → Int32) × Int32 × Int32) :=
  ((m_X5_blocks c_ma p1).bind fun x1 => ((g_ald 110 c_ma (45 : Int32)).bind fun x2 => ((m_X5_runs c_ma p1).bind fun x4 => ((g_loop (fun q => m_X5_tryGrow_L36 p1 c_ma q.1 q.2) 1000 ((0 : Int32), c_te)).bind (g_k1 fun f8 => ((g_loop (fun q => m_X5_tryGrow_L62 p2 q.1 q.2.1 q.2.2.1 q.2.2.2) 1000 (x1, f8, x2, x4)).bind (g_sk (fun v => some v) (g_k4 fun z18 f19 f20 f21 => ((g_ald 110 c_ma (((7 : Int32) * p1) + (1 : Int32))).bind fun x42 => ((m_X5_used c_ma x42).bind fun x43 => ((m_X5_blocks c_ma p1).bind fun x44 => ((g_ald 110 c_ma ((42 : Int32) + x42)).bind fun x45 => (if ((x43 - x44) + z18) ≤ x45 then some ((0 : Int32), f19, f20, f21) else some ((-9 : Int32), f19, f20, f21))))))))))))))
def m_X5_grow_L14 (p1 : Int32) (f2 : (Nat → Int32)) (y7 : Int32) (f8 : (Nat → Int32)) : Option ((Int32 × (Nat → Int32)) ⊕ ((Nat → Int32))) :=
  (if (4 : Int32) ≤ y7 then some (.inr f8) else ((g_ald 4 f2 y7).bind fun x12 => ((g_ast 110 f8 ((((7 : Int32) * p1) + (3 : Int32)) + y7) x12).bind fun f13 => some (.inl ((y7 + (1 : Int32)), f13)))))
def m_X5_grow (c_ma : (Nat → Int32)) (c_te : (Nat → Int32)) (c_tm : Int32) (c_tc : Int32) (p1 : Int32) (p2 : Int32) : Option (Int32 × (Nat → Int32) × (Nat → Int32) × Int32 × Int32) :=
  ((m_X5_tryGrow c_ma c_te c_tm c_tc p1 p2).bind (g_k4 fun x1 f2 f3 f4 => (if x1 = (0 : Int32) then ((g_loop (fun q => m_X5_grow_L14 p1 f2 q.1 q.2) 1000 ((0 : Int32), c_ma)).bind (g_k1 fun f9 => ((g_ast 110 f9 (45 : Int32) f3).bind fun f15 => ((g_ast 110 f15 (((7 : Int32) * p1) + (2 : Int32)) p2).bind fun f17 => some (x1, f17, f2, f3, f4))))) else some (x1, c_ma, f2, f3, f4))))
def m_X5_giveBack_L28 (x2 : Int32) (y4 : Int32) (f5 : (Nat → Int32)) : Option ((Int32 × (Nat → Int32)) ⊕ ((Nat → Int32))) :=
  ((m_X5_start x2).bind fun x8 => ((m_X5_size x2).bind fun x9 => (if ((2 : Int32) * (x8 + x9)) ≤ y4 then some (.inr f5) else ((g_ast 110 f5 ((46 : Int32) + y4) (0 : Int32)).bind fun f11 => some (.inl ((y4 + (1 : Int32)), f11))))))
def m_X5_giveBack (c_ma : (Nat → Int32)) (p1 : Int32) : Option ((Nat → Int32)) :=
  ((m_X5_runs c_ma p1).bind fun x1 => ((g_ald 110 c_ma ((((7 : Int32) * p1) + (2 : Int32)) + x1)).bind fun x2 => ((m_X5_start x2).bind fun x3 => ((g_loop (fun q => m_X5_giveBack_L28 x2 q.1 q.2) 1000 (((2 : Int32) * x3), c_ma)).bind (g_k1 fun f6 => ((g_ald 110 f6 (45 : Int32)).bind fun x13 => ((m_X5_start x2).bind fun x14 => ((m_X5_order x2).bind fun x15 => ((m_X5_bits x14 x15).bind fun x16 => ((g_ast 110 f6 (45 : Int32) (x13 &&& (x16 ^^^ (-1 : Int32)))).bind fun f17 => ((g_ast 110 f17 ((((7 : Int32) * p1) + (2 : Int32)) + x1) (0 : Int32)).bind fun f19 => some f19)))))))))))
def m_X5_shrink_L6 (p1 : Int32) (p2 : Int32) (f1 : (Nat → Int32)) : Option (((Nat → Int32)) ⊕ ((Nat → Int32))) :=
  ((m_X5_runs f1 p1).bind fun x4 => (if x4 ≤ (0 : Int32) then some (.inr f1) else ((m_X5_blocks f1 p1).bind fun x6 => ((m_X5_runs f1 p1).bind fun x7 => ((m_X5_extentOf f1 p1 (x7 - (1 : Int32))).bind fun x8 => ((m_X5_size x8).bind fun x9 => (if (x6 - x9) < ((p2 + (1 : Int32)) / (2 : Int32)) then some (.inr f1) else ((m_X5_giveBack f1 p1).bind fun f11 => some (.inl f11)))))))))
def m_X5_shrink_L62 (p1 : Int32) (y15 : Int32) (f16 : (Nat → Int32)) : Option ((Int32 × (Nat → Int32)) ⊕ ((Nat → Int32))) :=
  ((m_X5_blocks f16 p1).bind fun x19 => (if ((2 : Int32) * x19) ≤ y15 then some (.inr f16) else ((m_X5_wordCell f16 p1 y15).bind fun x21 => ((g_ast 110 f16 x21 (0 : Int32)).bind fun f22 => some (.inl ((y15 + (1 : Int32)), f22))))))
def m_X5_shrink (c_ma : (Nat → Int32)) (p1 : Int32) (p2 : Int32) : Option ((Nat → Int32)) :=
  ((g_loop (fun q => m_X5_shrink_L6 p1 p2 q) 1000 c_ma).bind (g_k1 fun f2 => ((g_ast 110 f2 (((7 : Int32) * p1) + (2 : Int32)) p2).bind fun f13 => ((g_loop (fun q => m_X5_shrink_L62 p1 q.1 q.2) 1000 (p2, f13)).bind (g_k1 fun f17 => some f17)))))
def m_X5_takeAway_L0 (p1 : Int32) (f1 : (Nat → Int32)) : Option (((Nat → Int32)) ⊕ ((Nat → Int32))) :=
  ((m_X5_runs f1 p1).bind fun x4 => (if x4 ≤ (0 : Int32) then some (.inr f1) else ((m_X5_giveBack f1 p1).bind fun f6 => some (.inl f6))))
def m_X5_takeAway_L21 (p1 : Int32) (y8 : Int32) (f9 : (Nat → Int32)) : Option ((Int32 × (Nat → Int32)) ⊕ ((Nat → Int32))) :=
  (if (((7 : Int32) * p1) + (7 : Int32)) ≤ y8 then some (.inr f9) else ((g_ast 110 f9 y8 (0 : Int32)).bind fun f13 => some (.inl ((y8 + (1 : Int32)), f13))))
def m_X5_takeAway (c_ma : (Nat → Int32)) (p1 : Int32) : Option ((Nat → Int32)) :=
  ((g_loop (fun q => m_X5_takeAway_L0 p1 q) 1000 c_ma).bind (g_k1 fun f2 => ((g_loop (fun q => m_X5_takeAway_L21 p1 q.1 q.2) 1000 (((7 : Int32) * p1), f2)).bind (g_k1 fun f10 => some f10))))
def m_X5_isOpen_L4 (p1 : Int32) (c_ha : (Nat → Int32)) (y1 : Int32) (y2 : Int32) : Option ((Int32 × Int32) ⊕ (Int32)) :=
  (if (4 : Int32) ≤ y2 then some (.inr y1) else (if y1 = (0 : Int32) then ((g_ald 4 c_ha y2).bind fun x7 => (if x7 = (p1 + (1 : Int32)) then some (.inl ((1 : Int32), (y2 + (1 : Int32)))) else some (.inl ((0 : Int32), (y2 + (1 : Int32)))))) else some (.inl ((1 : Int32), (y2 + (1 : Int32))))))
def m_X5_isOpen (c_ha : (Nat → Int32)) (p1 : Int32) : Option (Int32) :=
  ((g_loop (fun q => m_X5_isOpen_L4 p1 c_ha q.1 q.2) 1000 ((0 : Int32), (0 : Int32))).bind (g_k1 fun z3 => ((g_bool z3).bind fun x9 => some x9)))
def m_X5_create_L44 (p1 : Int32) (p2 : Int32) (c_ma : (Nat → Int32)) (y8 : Int32) : Option ((Int32) ⊕ ((Int32 × (Nat → Int32)) ⊕ (Unit))) :=
  (if (6 : Int32) ≤ y8 then some (.inr (.inr ())) else ((g_ald 110 c_ma ((7 : Int32) * y8)).bind fun x11 => (if x11 = (0 : Int32) then ((g_ast 110 c_ma ((7 : Int32) * y8) p1).bind fun f13 => ((g_ast 110 f13 (((7 : Int32) * y8) + (1 : Int32)) p2).bind fun f15 => some (.inr (.inl (y8, f15))))) else some (.inl (y8 + (1 : Int32))))))
def m_X5_create (c_ma : (Nat → Int32)) (c_up : Int32) (p1 : Int32) (p2 : Int32) : Option (Int32 × (Nat → Int32)) :=
  (if c_up = (0 : Int32) then some ((-11 : Int32), c_ma) else ((m_X5_within p1 (1 : Int32) (99 : Int32)).bind fun x2 => (if x2 = (0 : Int32) then some ((-12 : Int32), c_ma) else ((m_X5_within p2 (0 : Int32) (2 : Int32)).bind fun x4 => (if x4 = (0 : Int32) then some ((-12 : Int32), c_ma) else ((m_X5_slotOf c_ma p1).bind fun x6 => (if x6 < (0 : Int32) then ((g_loop (fun q => m_X5_create_L44 p1 p2 c_ma q) 1000 (0 : Int32)).bind (g_sk (fun v => some v) (g_k0 (some ((-2 : Int32), c_ma))))) else some ((-1 : Int32), c_ma))))))))
def m_X5_unlink (c_ma : (Nat → Int32)) (c_ha : (Nat → Int32)) (c_up : Int32) (p1 : Int32) : Option (Int32 × (Nat → Int32)) :=
  (if c_up = (0 : Int32) then some ((-11 : Int32), c_ma) else ((m_X5_slotOf c_ma p1).bind fun x2 => (if (0 : Int32) ≤ x2 then ((m_X5_isOpen c_ha x2).bind fun x4 => (if x4 = (0 : Int32) then ((m_X5_takeAway c_ma x2).bind fun f6 => some ((0 : Int32), f6)) else some ((-4 : Int32), c_ma))) else some ((-3 : Int32), c_ma))))
def m_X5_rename (c_ma : (Nat → Int32)) (c_ha : (Nat → Int32)) (c_up : Int32) (p1 : Int32) (p2 : Int32) : Option (Int32 × (Nat → Int32)) :=
  (if c_up = (0 : Int32) then some ((-11 : Int32), c_ma) else ((m_X5_slotOf c_ma p1).bind fun x2 => (if (0 : Int32) ≤ x2 then ((m_X5_within p2 (1 : Int32) (99 : Int32)).bind fun x4 => (if x4 = (0 : Int32) then some ((-12 : Int32), c_ma) else ((m_X5_slotOf c_ma p2).bind fun x6 => (if x6 < (0 : Int32) then ((g_ast 110 c_ma ((7 : Int32) * x2) p2).bind fun f8 => some ((0 : Int32), f8)) else (if x6 = x2 then ((g_ast 110 c_ma ((7 : Int32) * x2) p2).bind fun f11 => some ((0 : Int32), f11)) else ((m_X5_isOpen c_ha x6).bind fun x13 => (if x13 = (0 : Int32) then ((m_X5_takeAway c_ma x6).bind fun f15 => ((g_ast 110 f15 ((7 : Int32) * x2) p2).bind fun f17 => some ((0 : Int32), f17))) else some ((-4 : Int32), c_ma)))))))) else some ((-3 : Int32), c_ma))))
def m_X5_open_L25 (c_ha : (Nat → Int32)) (x2 : Int32) (y4 : Int32) : Option ((Int32) ⊕ ((Int32 × (Nat → Int32)) ⊕ (Unit))) :=
  (if (4 : Int32) ≤ y4 then some (.inr (.inr ())) else ((g_ald 4 c_ha y4).bind fun x7 => (if x7 = (0 : Int32) then ((g_ast 4 c_ha y4 (x2 + (1 : Int32))).bind fun f9 => some (.inr (.inl (y4, f9)))) else some (.inl (y4 + (1 : Int32))))))
def m_X5_open (c_ma : (Nat → Int32)) (c_ha : (Nat → Int32)) (c_up : Int32) (p1 : Int32) : Option (Int32 × (Nat → Int32)) :=
  (if c_up = (0 : Int32) then some ((-11 : Int32), c_ha) else ((m_X5_slotOf c_ma p1).bind fun x2 => (if (0 : Int32) ≤ x2 then ((g_loop (fun q => m_X5_open_L25 c_ha x2 q) 1000 (0 : Int32)).bind (g_sk (fun v => some v) (g_k0 (some ((-5 : Int32), c_ha))))) else some ((-3 : Int32), c_ha))))
def m_X5_slotAt (c_ha : (Nat → Int32)) (c_up : Int32) (p1 : Int32) : Option (Int32) :=
  (if c_up = (0 : Int32) then some (-11 : Int32) else ((m_X5_within p1 (0 : Int32) (3 : Int32)).bind fun x2 => (if x2 = (0 : Int32) then some (-6 : Int32) else ((g_ald 4 c_ha p1).bind fun x4 => (if x4 ≤ (0 : Int32) then some (-6 : Int32) else ((g_ald 4 c_ha p1).bind fun x6 => some (x6 - (1 : Int32))))))))
def m_X5_close (c_ha : (Nat → Int32)) (c_up : Int32) (p1 : Int32) : Option (Int32 × (Nat → Int32)) :=
  ((m_X5_slotAt c_ha c_up p1).bind fun x1 => (if (0 : Int32) ≤ x1 then ((g_ast 4 c_ha p1 (0 : Int32)).bind fun f3 => some ((0 : Int32), f3)) else some (x1, c_ha)))
def m_X5_write (c_ma : (Nat → Int32)) (c_ha : (Nat → Int32)) (c_te : (Nat → Int32)) (c_up : Int32) (c_tm : Int32) (c_tc : Int32) (p1 : Int32) (p2 : Int32) (p3 : Int32) : Option (Int32 × (Nat → Int32) × (Nat → Int32) × Int32 × Int32) :=
  ((m_X5_slotAt c_ha c_up p1).bind fun x1 => (if (0 : Int32) ≤ x1 then ((m_X5_within p2 (0 : Int32) (63 : Int32)).bind fun x3 => (if x3 = (0 : Int32) then some ((-7 : Int32), c_ma, c_te, c_tm, c_tc) else ((g_ald 110 c_ma (((7 : Int32) * x1) + (2 : Int32))).bind fun x5 => (if p2 < x5 then ((m_X5_wordCell c_ma x1 p2).bind fun x7 => ((g_ast 110 c_ma x7 p3).bind fun f8 => some ((0 : Int32), f8, c_te, c_tm, c_tc))) else ((m_X5_grow c_ma c_te c_tm c_tc x1 (p2 + (1 : Int32))).bind (g_k5 fun x10 f11 f12 f13 f14 => (if (0 : Int32) ≤ x10 then ((m_X5_wordCell f11 x1 p2).bind fun x17 => ((g_ast 110 f11 x17 p3).bind fun f18 => some ((0 : Int32), f18, f12, f13, f14))) else some (x10, f11, f12, f13, f14)))))))) else some (x1, c_ma, c_te, c_tm, c_tc)))
def m_X5_read (c_ma : (Nat → Int32)) (c_ha : (Nat → Int32)) (c_up : Int32) (p1 : Int32) (p2 : Int32) : Option (Int32) :=
  ((m_X5_slotAt c_ha c_up p1).bind fun x1 => (if x1 < (0 : Int32) then some (0 : Int32) else (if p2 < (0 : Int32) then some (0 : Int32) else ((g_ald 110 c_ma (((7 : Int32) * x1) + (2 : Int32))).bind fun x4 => (if p2 < x4 then ((m_X5_wordCell c_ma x1 p2).bind fun x6 => ((g_ald 110 c_ma x6).bind fun x7 => some x7)) else some (0 : Int32))))))
def m_X5_truncate (c_ma : (Nat → Int32)) (c_ha : (Nat → Int32)) (c_te : (Nat → Int32)) (c_up : Int32) (c_tm : Int32) (c_tc : Int32) (p1 : Int32) (p2 : Int32) : Option (Int32 × (Nat → Int32) × (Nat → Int32) × Int32 × Int32) :=
  ((m_X5_slotAt c_ha c_up p1).bind fun x1 => (if (0 : Int32) ≤ x1 then ((m_X5_within p2 (0 : Int32) (64 : Int32)).bind fun x3 => (if x3 = (0 : Int32) then some ((-7 : Int32), c_ma, c_te, c_tm, c_tc) else ((g_ald 110 c_ma (((7 : Int32) * x1) + (2 : Int32))).bind fun x5 => (if p2 ≤ x5 then ((m_X5_shrink c_ma x1 p2).bind fun f7 => some ((0 : Int32), f7, c_te, c_tm, c_tc)) else ((m_X5_grow c_ma c_te c_tm c_tc x1 p2).bind (g_k5 fun x9 f10 f11 f12 f13 => some (x9, f10, f11, f12, f13))))))) else some (x1, c_ma, c_te, c_tm, c_tc)))
def m_X5_length (c_ma : (Nat → Int32)) (c_ha : (Nat → Int32)) (c_up : Int32) (p1 : Int32) : Option (Int32) :=
  ((m_X5_slotAt c_ha c_up p1).bind fun x1 => (if (0 : Int32) ≤ x1 then ((g_ald 110 c_ma (((7 : Int32) * x1) + (2 : Int32))).bind fun x3 => some x3) else some x1))
def m_X5_extent (c_ma : (Nat → Int32)) (c_ha : (Nat → Int32)) (c_up : Int32) (p1 : Int32) (p2 : Int32) : Option (Int32) :=
  ((m_X5_slotAt c_ha c_up p1).bind fun x1 => (if (0 : Int32) ≤ x1 then ((m_X5_within p2 (0 : Int32) (3 : Int32)).bind fun x3 => (if x3 = (0 : Int32) then some (-12 : Int32) else ((m_X5_extentOf c_ma x1 p2).bind fun x5 => some x5))) else some x1))
def m_X5_setQuota (c_ma : (Nat → Int32)) (c_up : Int32) (p1 : Int32) (p2 : Int32) : Option (Int32 × (Nat → Int32)) :=
  (if c_up = (0 : Int32) then some ((-11 : Int32), c_ma) else ((m_X5_within p1 (0 : Int32) (2 : Int32)).bind fun x2 => (if x2 = (0 : Int32) then some ((-12 : Int32), c_ma) else ((m_X5_within p2 (0 : Int32) (32 : Int32)).bind fun x4 => (if x4 = (0 : Int32) then some ((-12 : Int32), c_ma) else ((m_X5_used c_ma p1).bind fun x6 => (if x6 ≤ p2 then ((g_ast 110 c_ma ((42 : Int32) + p1) p2).bind fun f8 => some ((0 : Int32), f8)) else some ((-10 : Int32), c_ma))))))))
def m_X5_usage (c_ma : (Nat → Int32)) (c_up : Int32) (p1 : Int32) : Option (Int32) :=
  (if c_up = (0 : Int32) then some (-11 : Int32) else ((m_X5_within p1 (0 : Int32) (2 : Int32)).bind fun x2 => (if x2 = (0 : Int32) then some (-12 : Int32) else ((m_X5_used c_ma p1).bind fun x4 => some x4))))
def m_X5_free (c_ma : (Nat → Int32)) (c_up : Int32) (p1 : Int32) : Option (Int32) :=
  (if c_up = (0 : Int32) then some (-11 : Int32) else ((m_X5_within p1 (0 : Int32) (5 : Int32)).bind fun x2 => (if x2 = (0 : Int32) then some (-12 : Int32) else ((g_ald 110 c_ma (45 : Int32)).bind fun x4 => ((m_X5_countFree x4 p1).bind fun x5 => some x5)))))
def m_X5_put_L19  (y11 : Int32) (f12 : (Nat → Int32)) : Option ((Int32 × (Nat → Int32)) ⊕ ((Nat → Int32))) :=
  (if (4 : Int32) ≤ y11 then some (.inr f12) else ((g_ast 4 f12 y11 (0 : Int32)).bind fun f16 => some (.inl ((y11 + (1 : Int32)), f16))))
def m_X5_put (c_da : (Nat → Int32)) (c_ha : (Nat → Int32)) (c_up : Int32) (c_fu : Int32) (p1 : Int32) (p2 : Int32) : Option (Int32 × (Nat → Int32) × (Nat → Int32) × Int32 × Int32) :=
  (if c_fu = (0 : Int32) then ((g_loop (fun q => m_X5_put_L19 q.1 q.2) 1000 ((0 : Int32), c_ha)).bind (g_k1 fun f13 => some ((0 : Int32), c_da, f13, (0 : Int32), (-1 : Int32)))) else (if c_fu ≤ (0 : Int32) then ((g_ast 332 c_da p1 p2).bind fun f4 => some ((1 : Int32), f4, c_ha, c_up, c_fu)) else ((g_ast 332 c_da p1 p2).bind fun f7 => some ((1 : Int32), f7, c_ha, c_up, (c_fu - (1 : Int32))))))
def m_X5_sync_L14 (c_da : (Nat → Int32)) (c_ma : (Nat → Int32)) (y2 : Int32) (y3 : Int32) (f4 : (Nat → Int32)) : Option ((Int32 × Int32 × (Nat → Int32)) ⊕ (Int32 × (Nat → Int32))) :=
  (if (110 : Int32) ≤ y3 then some (.inr (y2, f4)) else ((g_ald 332 c_da y3).bind fun x9 => ((g_ald 110 c_ma y3).bind fun x10 => (if x9 = x10 then some (.inl (y2, (y3 + (1 : Int32)), f4)) else ((g_ast 110 f4 y2 y3).bind fun f12 => some (.inl ((y2 + (1 : Int32)), (y3 + (1 : Int32)), f12)))))))
def m_X5_sync_L64 (c_ma : (Nat → Int32)) (z5 : Int32) (f6 : (Nat → Int32)) (y15 : Int32) (y16 : Int32) (y17 : Int32) (f18 : (Nat → Int32)) (f19 : (Nat → Int32)) (f20 : Int32) (f21 : Int32) : Option ((Int32 × Int32 × Int32 × (Nat → Int32) × (Nat → Int32) × Int32 × Int32) ⊕ (Int32 × Int32 × (Nat → Int32) × (Nat → Int32) × Int32 × Int32)) :=
  (if z5 ≤ y17 then some (.inr (y15, y16, f18, f19, f20, f21)) else (if y16 = (0 : Int32) then some (.inr (y15, y16, f18, f19, f20, f21)) else ((g_ald 110 f6 y17).bind fun x31 => ((g_ald 110 c_ma x31).bind fun x32 => ((m_X5_put f18 f19 f20 f21 ((112 : Int32) + ((2 : Int32) * y17)) x31).bind (g_k5 fun x33 f34 f35 f36 f37 => (if x33 = (0 : Int32) then some (.inl (((((y15 * (31 : Int32)) + x31) * (31 : Int32)) + x32), (0 : Int32), (y17 + (1 : Int32)), f34, f35, f36, f37)) else ((g_ald 110 c_ma x31).bind fun x40 => ((m_X5_put f34 f35 f36 f37 ((113 : Int32) + ((2 : Int32) * y17)) x40).bind (g_k5 fun x41 f42 f43 f44 f45 => (if x41 = (0 : Int32) then some (.inl (((((y15 * (31 : Int32)) + x31) * (31 : Int32)) + x32), (0 : Int32), (y17 + (1 : Int32)), f42, f43, f44, f45)) else some (.inl (((((y15 * (31 : Int32)) + x31) * (31 : Int32)) + x32), (1 : Int32), (y17 + (1 : Int32)), f42, f43, f44, f45)))))))))))))
def m_X5_sync_L184 (c_ma : (Nat → Int32)) (z5 : Int32) (f6 : (Nat → Int32)) (y54 : Int32) (y55 : Int32) (f56 : (Nat → Int32)) (f57 : (Nat → Int32)) (f58 : Int32) (f59 : Int32) : Option ((Int32 × Int32 × (Nat → Int32) × (Nat → Int32) × Int32 × Int32) ⊕ (Int32 × (Nat → Int32) × (Nat → Int32) × Int32 × Int32)) :=
  (if z5 ≤ y55 then some (.inr (y54, f56, f57, f58, f59)) else (if y54 = (0 : Int32) then some (.inr (y54, f56, f57, f58, f59)) else ((g_ald 110 f6 y55).bind fun x68 => ((g_ald 110 f6 y55).bind fun x69 => ((g_ald 110 c_ma x69).bind fun x70 => ((m_X5_put f56 f57 f58 f59 x68 x70).bind (g_k5 fun x71 f72 f73 f74 f75 => some (.inl (x71, (y55 + (1 : Int32)), f72, f73, f74, f75)))))))))
def m_X5_sync (c_da : (Nat → Int32)) (c_ma : (Nat → Int32)) (c_ha : (Nat → Int32)) (c_ch : (Nat → Int32)) (c_up : Int32) (c_fu : Int32)  : Option (Int32 × (Nat → Int32) × (Nat → Int32) × (Nat → Int32) × Int32 × Int32) :=
  (if c_up = (0 : Int32) then some ((-11 : Int32), c_da, c_ha, c_ch, c_up, c_fu) else ((g_loop (fun q => m_X5_sync_L14 c_da c_ma q.1 q.2.1 q.2.2) 1000 ((0 : Int32), (0 : Int32), c_ch)).bind (g_k2 fun z5 f6 => (if z5 = (0 : Int32) then some ((0 : Int32), c_da, c_ha, f6, c_up, c_fu) else ((g_loop (fun q => m_X5_sync_L64 c_ma z5 f6 q.1 q.2.1 q.2.2.1 q.2.2.2.1 q.2.2.2.2.1 q.2.2.2.2.2.1 q.2.2.2.2.2.2) 1000 (z5, (1 : Int32), (0 : Int32), c_da, c_ha, c_up, c_fu)).bind (g_k6 fun z22 z23 f24 f25 f26 f27 => ((if z23 = (0 : Int32) then some ((0 : Int32), f24, f25, f26, f27) else ((m_X5_put f24 f25 f26 f27 (111 : Int32) z22).bind (g_k5 fun x86 f87 f88 f89 f90 => (if x86 = (0 : Int32) then some ((0 : Int32), f87, f88, f89, f90) else ((m_X5_put f87 f88 f89 f90 (110 : Int32) z5).bind (g_k5 fun x93 f94 f95 f96 f97 => (if x93 = (0 : Int32) then some ((0 : Int32), f94, f95, f96, f97) else some ((1 : Int32), f94, f95, f96, f97)))))))).bind (g_k5 fun v48 f49 f50 f51 f52 => ((g_loop (fun q => m_X5_sync_L184 c_ma z5 f6 q.1 q.2.1 q.2.2.1 q.2.2.2.1 q.2.2.2.2.1 q.2.2.2.2.2) 1000 (v48, (0 : Int32), f49, f50, f51, f52)).bind (g_k5 fun z60 f61 f62 f63 f64 => (if z60 = (0 : Int32) then some ((-11 : Int32), f61, f62, f6, f63, f64) else ((m_X5_put f61 f62 f63 f64 (110 : Int32) (0 : Int32)).bind (g_k5 fun x78 f79 f80 f81 f82 => (if x78 = (0 : Int32) then some ((-11 : Int32), f79, f80, f6, f81, f82) else some (z5, f79, f80, f6, f81, f82)))))))))))))))
def m_X5_crashAfter (c_up : Int32) (c_fu : Int32) (p1 : Int32) : Option (Int32 × Int32) :=
  (if c_up = (0 : Int32) then some ((0 : Int32), c_fu) else (if (-1 : Int32) ≤ p1 then some ((1 : Int32), p1) else some ((0 : Int32), c_fu)))
def m_X5_holds_L27 (c_da : (Nat → Int32)) (x1 : Int32) (y4 : Int32) (y5 : Int32) (y6 : Int32) : Option ((Int32 × Int32 × Int32) ⊕ ((Int32) ⊕ (Int32))) :=
  (if x1 ≤ y6 then some (.inr (.inr y4)) else ((g_ald 332 c_da ((112 : Int32) + ((2 : Int32) * y6))).bind fun x10 => ((m_X5_within x10 (y5 + (1 : Int32)) (109 : Int32)).bind fun x11 => (if x11 = (0 : Int32) then some (.inr (.inl (0 : Int32))) else ((g_ald 332 c_da ((113 : Int32) + ((2 : Int32) * y6))).bind fun x13 => some (.inl (((((y4 * (31 : Int32)) + x10) * (31 : Int32)) + x13), x10, (y6 + (1 : Int32)))))))))
def m_X5_holds (c_da : (Nat → Int32))  : Option (Int32) :=
  ((g_ald 332 c_da (110 : Int32)).bind fun x1 => ((m_X5_within x1 (1 : Int32) (110 : Int32)).bind fun x2 => (if x2 = (0 : Int32) then some (0 : Int32) else ((g_loop (fun q => m_X5_holds_L27 c_da x1 q.1 q.2.1 q.2.2) 1000 (x1, (-1 : Int32), (0 : Int32))).bind (g_sk (fun v => some v) (g_k1 fun z7 => ((g_ald 332 c_da (111 : Int32)).bind fun x14 => (if z7 = x14 then some (1 : Int32) else some (0 : Int32)))))))))
def m_X5_fetch_L2 (c_da : (Nat → Int32)) (y1 : Int32) (f2 : (Nat → Int32)) : Option ((Int32 × (Nat → Int32)) ⊕ ((Nat → Int32))) :=
  (if (110 : Int32) ≤ y1 then some (.inr f2) else ((g_ald 332 c_da y1).bind fun x6 => ((g_ast 110 f2 y1 x6).bind fun f7 => some (.inl ((y1 + (1 : Int32)), f7)))))
def m_X5_fetch_L35 (c_da : (Nat → Int32)) (y11 : Int32) (f12 : (Nat → Int32)) : Option ((Int32 × (Nat → Int32)) ⊕ ((Nat → Int32))) :=
  ((g_ald 332 c_da (110 : Int32)).bind fun x15 => (if x15 ≤ y11 then some (.inr f12) else ((g_ald 332 c_da ((112 : Int32) + ((2 : Int32) * y11))).bind fun x17 => ((g_ald 332 c_da ((113 : Int32) + ((2 : Int32) * y11))).bind fun x18 => ((g_ast 110 f12 x17 x18).bind fun f19 => some (.inl ((y11 + (1 : Int32)), f19)))))))
def m_X5_fetch (c_da : (Nat → Int32)) (c_ho : (Nat → Int32))  : Option ((Nat → Int32)) :=
  ((g_loop (fun q => m_X5_fetch_L2 c_da q.1 q.2) 1000 ((0 : Int32), c_ho)).bind (g_k1 fun f3 => ((m_X5_holds c_da).bind fun x9 => (if x9 = (0 : Int32) then some f3 else ((g_loop (fun q => m_X5_fetch_L35 c_da q.1 q.2) 1000 ((0 : Int32), f3)).bind (g_k1 fun f13 => some f13))))))
def m_X5_slotsRight_L65 (c_ho : (Nat → Int32)) (y1 : Int32) (y13 : Int32) : Option ((Int32) ⊕ ((Int32) ⊕ (Unit))) :=
  (if (7 : Int32) ≤ y13 then some (.inr (.inr ())) else ((g_ald 110 c_ho ((7 : Int32) * y1)).bind fun x16 => (if x16 = (0 : Int32) then ((g_ald 110 c_ho (((7 : Int32) * y1) + y13)).bind fun x18 => (if x18 = (0 : Int32) then some (.inl (y13 + (1 : Int32))) else some (.inr (.inl (0 : Int32))))) else some (.inl (y13 + (1 : Int32))))))
def m_X5_slotsRight_L2 (c_ho : (Nat → Int32)) (y1 : Int32) : Option ((Int32) ⊕ ((Int32) ⊕ (Unit))) :=
  (if (6 : Int32) ≤ y1 then some (.inr (.inr ())) else ((g_ald 110 c_ho ((7 : Int32) * y1)).bind fun x4 => ((m_X5_within x4 (0 : Int32) (99 : Int32)).bind fun x5 => (if x5 = (0 : Int32) then some (.inr (.inl (0 : Int32))) else ((g_ald 110 c_ho (((7 : Int32) * y1) + (1 : Int32))).bind fun x7 => ((m_X5_within x7 (0 : Int32) (2 : Int32)).bind fun x8 => (if x8 = (0 : Int32) then some (.inr (.inl (0 : Int32))) else ((g_ald 110 c_ho (((7 : Int32) * y1) + (2 : Int32))).bind fun x10 => ((m_X5_within x10 (0 : Int32) (64 : Int32)).bind fun x11 => (if x11 = (0 : Int32) then some (.inr (.inl (0 : Int32))) else ((g_loop (fun q => m_X5_slotsRight_L65 c_ho y1 q) 1000 (1 : Int32)).bind (g_sk (fun v => some (.inr (.inl v))) (g_k0 (some (.inl (y1 + (1 : Int32)))))))))))))))))
def m_X5_slotsRight (c_ho : (Nat → Int32))  : Option (Int32) :=
  ((g_loop (fun q => m_X5_slotsRight_L2 c_ho q) 1000 (0 : Int32)).bind (g_sk (fun v => some v) (g_k0 (some (1 : Int32)))))
def m_X5_namesRight_L10 (c_ho : (Nat → Int32)) (y1 : Int32) (y4 : Int32) : Option ((Int32) ⊕ ((Int32) ⊕ (Unit))) :=
  (if y1 ≤ y4 then some (.inr (.inr ())) else ((g_ald 110 c_ho ((7 : Int32) * y1)).bind fun x7 => (if x7 = (0 : Int32) then some (.inl (y4 + (1 : Int32))) else ((g_ald 110 c_ho ((7 : Int32) * y1)).bind fun x9 => ((g_ald 110 c_ho ((7 : Int32) * y4)).bind fun x10 => (if x9 = x10 then some (.inr (.inl (0 : Int32))) else some (.inl (y4 + (1 : Int32)))))))))
def m_X5_namesRight_L2 (c_ho : (Nat → Int32)) (y1 : Int32) : Option ((Int32) ⊕ ((Int32) ⊕ (Unit))) :=
  (if (6 : Int32) ≤ y1 then some (.inr (.inr ())) else ((g_loop (fun q => m_X5_namesRight_L10 c_ho y1 q) 1000 (0 : Int32)).bind (g_sk (fun v => some (.inr (.inl v))) (g_k0 (some (.inl (y1 + (1 : Int32))))))))
def m_X5_namesRight (c_ho : (Nat → Int32))  : Option (Int32) :=
  ((g_loop (fun q => m_X5_namesRight_L2 c_ho q) 1000 (0 : Int32)).bind (g_sk (fun v => some v) (g_k0 (some (1 : Int32)))))
def m_X5_extentsRight_L10 (c_ho : (Nat → Int32)) (y1 : Int32) (y4 : Int32) : Option ((Int32) ⊕ ((Int32) ⊕ (Unit))) :=
  (if (4 : Int32) ≤ y4 then some (.inr (.inr ())) else ((g_ald 110 c_ho ((((7 : Int32) * y1) + (3 : Int32)) + y4)).bind fun x7 => (if x7 = (0 : Int32) then some (.inl (y4 + (1 : Int32))) else ((m_X5_isRun x7).bind fun x9 => (if x9 = (0 : Int32) then some (.inr (.inl (0 : Int32))) else (if y4 ≤ (0 : Int32) then some (.inl (y4 + (1 : Int32))) else ((g_ald 110 c_ho ((((7 : Int32) * y1) + (2 : Int32)) + y4)).bind fun x12 => (if x12 = (0 : Int32) then some (.inr (.inl (0 : Int32))) else some (.inl (y4 + (1 : Int32)))))))))))
def m_X5_extentsRight_L2 (c_ho : (Nat → Int32)) (y1 : Int32) : Option ((Int32) ⊕ ((Int32) ⊕ (Unit))) :=
  (if (6 : Int32) ≤ y1 then some (.inr (.inr ())) else ((g_loop (fun q => m_X5_extentsRight_L10 c_ho y1 q) 1000 (0 : Int32)).bind (g_sk (fun v => some (.inr (.inl v))) (g_k0 (some (.inl (y1 + (1 : Int32))))))))
def m_X5_extentsRight (c_ho : (Nat → Int32))  : Option (Int32) :=
  ((g_loop (fun q => m_X5_extentsRight_L2 c_ho q) 1000 (0 : Int32)).bind (g_sk (fun v => some v) (g_k0 (some (1 : Int32)))))
def m_X5_blocksRight_L28 (c_ho : (Nat → Int32)) (y2 : Int32) (y10 : Int32) (y15 : Int32) (f16 : (Nat → Int32)) : Option ((Int32 × (Nat → Int32)) ⊕ ((Nat → Int32))) :=
  (if (4 : Int32) ≤ y15 then some (.inr f16) else ((g_ald 110 c_ho ((((7 : Int32) * y10) + (3 : Int32)) + y15)).bind fun x20 => ((if x20 = (0 : Int32) then some (0 : Int32) else ((m_X5_start x20).bind fun x31 => (if y2 < x31 then some (0 : Int32) else ((m_X5_start x20).bind fun x33 => ((m_X5_size x20).bind fun x34 => (if (x33 + x34) ≤ y2 then some (0 : Int32) else some (1 : Int32))))))).bind (g_k1 fun v21 => (if v21 = (0 : Int32) then ((g_ald 32 f16 y2).bind fun x24 => ((g_ast 32 f16 y2 x24).bind fun f25 => some (.inl ((y15 + (1 : Int32)), f25)))) else ((g_ald 32 f16 y2).bind fun x27 => ((g_ast 32 f16 y2 (x27 + (1 : Int32))).bind fun f28 => some (.inl ((y15 + (1 : Int32)), f28)))))))))
def m_X5_blocksRight_L19 (c_ho : (Nat → Int32)) (y2 : Int32) (y10 : Int32) (f11 : (Nat → Int32)) : Option ((Int32 × (Nat → Int32)) ⊕ ((Nat → Int32))) :=
  (if (6 : Int32) ≤ y10 then some (.inr f11) else ((g_loop (fun q => m_X5_blocksRight_L28 c_ho y2 y10 q.1 q.2) 1000 ((0 : Int32), f11)).bind (g_k1 fun f17 => some (.inl ((y10 + (1 : Int32)), f17)))))
def m_X5_blocksRight_L4 (c_ho : (Nat → Int32)) (y1 : Int32) (y2 : Int32) (f3 : (Nat → Int32)) : Option ((Int32 × Int32 × (Nat → Int32)) ⊕ (Int32 × (Nat → Int32))) :=
  (if (32 : Int32) ≤ y2 then some (.inr (y1, f3)) else ((g_ast 32 f3 y2 (0 : Int32)).bind fun f8 => ((g_loop (fun q => m_X5_blocksRight_L19 c_ho y2 q.1 q.2) 1000 ((0 : Int32), f8)).bind (g_k1 fun f12 => (if y1 = (0 : Int32) then some (.inl ((0 : Int32), (y2 + (1 : Int32)), f12)) else ((g_ald 32 f12 y2).bind fun x37 => (if (2 : Int32) ≤ x37 then some (.inl ((0 : Int32), (y2 + (1 : Int32)), f12)) else some (.inl ((1 : Int32), (y2 + (1 : Int32)), f12)))))))))
def m_X5_blocksRight (c_ho : (Nat → Int32)) (c_ti : (Nat → Int32))  : Option (Int32 × (Nat → Int32)) :=
  ((g_loop (fun q => m_X5_blocksRight_L4 c_ho q.1 q.2.1 q.2.2) 1000 ((1 : Int32), (0 : Int32), c_ti)).bind (g_k2 fun z4 f5 => ((g_bool z4).bind fun x39 => some (x39, f5))))
def m_X5_needsRight_L35 (c_ho : (Nat → Int32)) (y2 : Int32) (y7 : Int32) (y8 : Int32) (y9 : Int32) : Option ((Int32 × Int32 × Int32) ⊕ (Int32 × Int32)) :=
  (if (4 : Int32) ≤ y9 then some (.inr (y7, y8)) else ((g_ald 110 c_ho ((((7 : Int32) * y2) + (3 : Int32)) + y9)).bind fun x14 => ((m_X5_size x14).bind fun x15 => (if x14 = (0 : Int32) then some (.inl ((y7 + x15), y8, (y9 + (1 : Int32)))) else ((m_X5_size x14).bind fun x17 => some (.inl ((y7 + x15), x17, (y9 + (1 : Int32)))))))))
def m_X5_needsRight_L4 (c_ho : (Nat → Int32)) (y1 : Int32) (y2 : Int32) : Option ((Int32 × Int32) ⊕ (Int32)) :=
  (if (6 : Int32) ≤ y2 then some (.inr y1) else ((g_ald 110 c_ho (((7 : Int32) * y2) + (2 : Int32))).bind fun x6 => ((g_loop (fun q => m_X5_needsRight_L35 c_ho y2 q.1 q.2.1 q.2.2) 1000 ((0 : Int32), (0 : Int32), (0 : Int32))).bind (g_k2 fun z10 z11 => (if y1 = (0 : Int32) then some (.inl ((0 : Int32), (y2 + (1 : Int32)))) else (if z10 < ((x6 + (1 : Int32)) / (2 : Int32)) then some (.inl ((0 : Int32), (y2 + (1 : Int32)))) else (if z11 = (0 : Int32) then some (.inl ((1 : Int32), (y2 + (1 : Int32)))) else (if ((x6 + (1 : Int32)) / (2 : Int32)) ≤ (z10 - z11) then some (.inl ((0 : Int32), (y2 + (1 : Int32)))) else some (.inl ((1 : Int32), (y2 + (1 : Int32))))))))))))
def m_X5_needsRight (c_ho : (Nat → Int32))  : Option (Int32) :=
  ((g_loop (fun q => m_X5_needsRight_L4 c_ho q.1 q.2) 1000 ((1 : Int32), (0 : Int32))).bind (g_k1 fun z3 => ((g_bool z3).bind fun x22 => some x22)))
def m_X5_mapRight_L4 (c_ti : (Nat → Int32)) (y1 : Int32) (y2 : Int32) : Option ((Int32 × Int32) ⊕ (Int32)) :=
  (if (32 : Int32) ≤ y2 then some (.inr y1) else ((g_ald 32 c_ti y2).bind fun x6 => (if x6 ≤ (0 : Int32) then some (.inl (y1, (y2 + (1 : Int32)))) else some (.inl ((y1 ||| (g_shl (1 : Int32) y2)), (y2 + (1 : Int32)))))))
def m_X5_mapRight (c_ho : (Nat → Int32)) (c_ti : (Nat → Int32))  : Option (Int32) :=
  ((g_loop (fun q => m_X5_mapRight_L4 c_ti q.1 q.2) 1000 ((0 : Int32), (0 : Int32))).bind (g_k1 fun z3 => ((g_ald 110 c_ho (45 : Int32)).bind fun x8 => (if z3 = x8 then some (1 : Int32) else some (0 : Int32)))))
def m_X5_quotasRight_L24 (c_ho : (Nat → Int32)) (y2 : Int32) (y7 : Int32) (y11 : Int32) (y12 : Int32) : Option ((Int32 × Int32) ⊕ (Int32)) :=
  (if (4 : Int32) ≤ y12 then some (.inr y11) else ((g_ald 110 c_ho ((7 : Int32) * y7)).bind fun x16 => (if x16 = (0 : Int32) then some (.inl (y11, (y12 + (1 : Int32)))) else ((g_ald 110 c_ho (((7 : Int32) * y7) + (1 : Int32))).bind fun x18 => (if x18 = y2 then ((g_ald 110 c_ho ((((7 : Int32) * y7) + (3 : Int32)) + y12)).bind fun x20 => ((m_X5_size x20).bind fun x21 => some (.inl ((y11 + x21), (y12 + (1 : Int32)))))) else some (.inl (y11, (y12 + (1 : Int32)))))))))
def m_X5_quotasRight_L14 (c_ho : (Nat → Int32)) (y2 : Int32) (y6 : Int32) (y7 : Int32) : Option ((Int32 × Int32) ⊕ (Int32)) :=
  (if (6 : Int32) ≤ y7 then some (.inr y6) else ((g_loop (fun q => m_X5_quotasRight_L24 c_ho y2 y7 q.1 q.2) 1000 (y6, (0 : Int32))).bind (g_k1 fun z13 => some (.inl (z13, (y7 + (1 : Int32)))))))
def m_X5_quotasRight_L4 (c_ho : (Nat → Int32)) (y1 : Int32) (y2 : Int32) : Option ((Int32 × Int32) ⊕ (Int32)) :=
  (if (3 : Int32) ≤ y2 then some (.inr y1) else ((g_loop (fun q => m_X5_quotasRight_L14 c_ho y2 q.1 q.2) 1000 ((0 : Int32), (0 : Int32))).bind (g_k1 fun z8 => (if y1 = (0 : Int32) then some (.inl ((0 : Int32), (y2 + (1 : Int32)))) else ((g_ald 110 c_ho ((42 : Int32) + y2)).bind fun x23 => ((m_X5_within x23 z8 (32 : Int32)).bind fun x24 => (if x24 = (0 : Int32) then some (.inl ((0 : Int32), (y2 + (1 : Int32)))) else some (.inl ((1 : Int32), (y2 + (1 : Int32)))))))))))
def m_X5_quotasRight (c_ho : (Nat → Int32))  : Option (Int32) :=
  ((g_loop (fun q => m_X5_quotasRight_L4 c_ho q.1 q.2) 1000 ((1 : Int32), (0 : Int32))).bind (g_k1 fun z3 => ((g_bool z3).bind fun x26 => some x26)))
def m_X5_wordsRight_L2  (y1 : Int32) (f2 : (Nat → Int32)) : Option ((Int32 × (Nat → Int32)) ⊕ ((Nat → Int32))) :=
  (if (64 : Int32) ≤ y1 then some (.inr f2) else ((g_ast 64 f2 y1 (0 : Int32)).bind fun f6 => some (.inl ((y1 + (1 : Int32)), f6))))
def m_X5_wordsRight_L66 (x20 : Int32) (y21 : Int32) (y22 : Int32) (f23 : (Nat → Int32)) : Option ((Int32 × Int32 × (Nat → Int32)) ⊕ (Int32 × (Nat → Int32))) :=
  ((m_X5_size x20).bind fun x27 => (if ((2 : Int32) * x27) ≤ y22 then some (.inr (y21, f23)) else (if y21 ≤ (0 : Int32) then some (.inr (y21, f23)) else ((m_X5_start x20).bind fun x30 => ((g_ast 64 f23 (((2 : Int32) * x30) + y22) (1 : Int32)).bind fun f31 => some (.inl ((y21 + (-1 : Int32)), (y22 + (1 : Int32)), f31)))))))
def m_X5_wordsRight_L43 (c_ho : (Nat → Int32)) (y8 : Int32) (y14 : Int32) (y15 : Int32) (f16 : (Nat → Int32)) : Option ((Int32 × Int32 × (Nat → Int32)) ⊕ ((Nat → Int32))) :=
  (if (4 : Int32) ≤ y15 then some (.inr f16) else ((g_ald 110 c_ho ((((7 : Int32) * y8) + (3 : Int32)) + y15)).bind fun x20 => ((g_loop (fun q => m_X5_wordsRight_L66 x20 q.1 q.2.1 q.2.2) 1000 (y14, (0 : Int32), f16)).bind (g_k2 fun z24 f25 => some (.inl (z24, (y15 + (1 : Int32)), f25))))))
def m_X5_wordsRight_L23 (c_ho : (Nat → Int32)) (y8 : Int32) (f9 : (Nat → Int32)) : Option ((Int32 × (Nat → Int32)) ⊕ ((Nat → Int32))) :=
  (if (6 : Int32) ≤ y8 then some (.inr f9) else ((g_ald 110 c_ho (((7 : Int32) * y8) + (2 : Int32))).bind fun x13 => ((g_loop (fun q => m_X5_wordsRight_L43 c_ho y8 q.1 q.2.1 q.2.2) 1000 (x13, (0 : Int32), f9)).bind (g_k1 fun f17 => some (.inl ((y8 + (1 : Int32)), f17))))))
def m_X5_wordsRight_L123 (c_ho : (Nat → Int32)) (f10 : (Nat → Int32)) (y33 : Int32) (y34 : Int32) : Option ((Int32 × Int32) ⊕ (Int32)) :=
  (if (64 : Int32) ≤ y34 then some (.inr y33) else (if y33 = (0 : Int32) then some (.inl ((0 : Int32), (y34 + (1 : Int32)))) else ((g_ald 64 f10 y34).bind fun x39 => (if x39 = (0 : Int32) then ((g_ald 110 c_ho ((46 : Int32) + y34)).bind fun x41 => (if x41 = (0 : Int32) then some (.inl ((1 : Int32), (y34 + (1 : Int32)))) else some (.inl ((0 : Int32), (y34 + (1 : Int32)))))) else some (.inl ((1 : Int32), (y34 + (1 : Int32))))))))
def m_X5_wordsRight (c_ho : (Nat → Int32)) (c_be : (Nat → Int32))  : Option (Int32 × (Nat → Int32)) :=
  ((g_loop (fun q => m_X5_wordsRight_L2 q.1 q.2) 1000 ((0 : Int32), c_be)).bind (g_k1 fun f3 => ((g_loop (fun q => m_X5_wordsRight_L23 c_ho q.1 q.2) 1000 ((0 : Int32), f3)).bind (g_k1 fun f10 => ((g_loop (fun q => m_X5_wordsRight_L123 c_ho f10 q.1 q.2) 1000 ((1 : Int32), (0 : Int32))).bind (g_k1 fun z35 => ((g_bool z35).bind fun x43 => some (x43, f10))))))))
def m_X5_judge (c_da : (Nat → Int32)) (c_ho : (Nat → Int32)) (c_ti : (Nat → Int32)) (c_be : (Nat → Int32))  : Option (Int32 × (Nat → Int32) × (Nat → Int32) × (Nat → Int32)) :=
  ((m_X5_fetch c_da c_ho).bind fun f1 => ((m_X5_slotsRight f1).bind fun x3 => (if x3 = (0 : Int32) then some ((1 : Int32), f1, c_ti, c_be) else ((m_X5_namesRight f1).bind fun x5 => (if x5 = (0 : Int32) then some ((2 : Int32), f1, c_ti, c_be) else ((m_X5_extentsRight f1).bind fun x7 => (if x7 = (0 : Int32) then some ((3 : Int32), f1, c_ti, c_be) else ((m_X5_blocksRight f1 c_ti).bind (g_k2 fun x9 f10 => (if x9 = (0 : Int32) then some ((4 : Int32), f1, f10, c_be) else ((m_X5_needsRight f1).bind fun x13 => (if x13 = (0 : Int32) then some ((5 : Int32), f1, f10, c_be) else ((m_X5_mapRight f1 f10).bind fun x15 => (if x15 = (0 : Int32) then some ((6 : Int32), f1, f10, c_be) else ((m_X5_quotasRight f1).bind fun x17 => (if x17 = (0 : Int32) then some ((7 : Int32), f1, f10, c_be) else ((m_X5_wordsRight f1 c_be).bind (g_k2 fun x19 f20 => (if x19 = (0 : Int32) then some ((8 : Int32), f1, f10, f20) else some ((0 : Int32), f1, f10, f20))))))))))))))))))))
def m_X5_mount_L65 (f3 : (Nat → Int32)) (y11 : Int32) (f12 : (Nat → Int32)) : Option ((Int32 × (Nat → Int32)) ⊕ ((Nat → Int32))) :=
  (if (110 : Int32) ≤ y11 then some (.inr f12) else ((g_ald 110 f3 y11).bind fun x16 => ((g_ast 110 f12 y11 x16).bind fun f17 => some (.inl ((y11 + (1 : Int32)), f17)))))
def m_X5_mount_L24 (f3 : (Nat → Int32)) (y21 : Int32) (f22 : (Nat → Int32)) : Option ((Int32 × (Nat → Int32)) ⊕ ((Nat → Int32))) :=
  (if (110 : Int32) ≤ y21 then some (.inr f22) else ((g_ald 110 f3 y21).bind fun x26 => ((g_ast 332 f22 y21 x26).bind fun f27 => some (.inl ((y21 + (1 : Int32)), f27)))))
def m_X5_mount (c_da : (Nat → Int32)) (c_ma : (Nat → Int32)) (c_ho : (Nat → Int32)) (c_ti : (Nat → Int32)) (c_be : (Nat → Int32)) (c_up : Int32)  : Option (Int32 × (Nat → Int32) × (Nat → Int32) × (Nat → Int32) × (Nat → Int32) × (Nat → Int32) × Int32) :=
  (if c_up = (0 : Int32) then ((m_X5_judge c_da c_ho c_ti c_be).bind (g_k4 fun x2 f3 f4 f5 => ((m_X5_holds c_da).bind fun x7 => ((if x7 = (0 : Int32) then some c_da else ((g_loop (fun q => m_X5_mount_L24 f3 q.1 q.2) 1000 ((0 : Int32), c_da)).bind (g_k1 fun f23 => ((g_ast 332 f23 (110 : Int32) (0 : Int32)).bind fun f29 => some f29)))).bind (g_k1 fun f8 => (if x2 ≤ (0 : Int32) then ((g_loop (fun q => m_X5_mount_L65 f3 q.1 q.2) 1000 ((0 : Int32), c_ma)).bind (g_k1 fun f13 => some ((0 : Int32), f8, f13, f3, f4, f5, (1 : Int32)))) else some ((-13 : Int32), f8, c_ma, f3, f4, f5, c_up))))))) else some ((-4 : Int32), c_da, c_ma, c_ho, c_ti, c_be, c_up))
def m_X5_corrupt (c_da : (Nat → Int32)) (c_up : Int32) (p1 : Int32) (p2 : Int32) : Option (Int32 × (Nat → Int32)) :=
  (if c_up = (0 : Int32) then ((m_X5_within p1 (0 : Int32) (331 : Int32)).bind fun x2 => (if x2 = (0 : Int32) then some ((0 : Int32), c_da) else ((g_ast 332 c_da p1 p2).bind fun f4 => some ((1 : Int32), f4)))) else some ((0 : Int32), c_da))
def m_X5_fsck (c_da : (Nat → Int32)) (c_ho : (Nat → Int32)) (c_ti : (Nat → Int32)) (c_be : (Nat → Int32))  : Option (Int32 × (Nat → Int32) × (Nat → Int32) × (Nat → Int32)) :=
  ((m_X5_judge c_da c_ho c_ti c_be).bind (g_k4 fun x1 f2 f3 f4 => some (x1, f2, f3, f4)))
def m_X5_peek (c_da : (Nat → Int32)) (p1 : Int32) : Option (Int32) :=
  ((m_X5_within p1 (0 : Int32) (331 : Int32)).bind fun x1 => (if x1 = (0 : Int32) then some (0 : Int32) else ((g_ald 332 c_da p1).bind fun x3 => some x3)))
