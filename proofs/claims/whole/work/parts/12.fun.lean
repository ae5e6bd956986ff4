/-! what each method does, as a plain function (printed by wip/whole/gen2.py out of the bytecode) -/
def f_X4_takes (σ : Sg) (a1 : Int32) : Option (Int32 × Sg) :=
  (if (gI σ 1) < (80 : Int32) then gd (okI (gI σ 1) 80) (vl (pA σ 2 (gI σ 1).toNatClampNeg a1) (fun σ3 => vl ((gI σ3 1) + (1 : Int32)) (fun x4 => vl (pI σ3 1 x4) (fun σ5 => some ((1 : Int32), σ5))))) else some ((0 : Int32), σ))
def f_X6_type (σ : Sg) (a1 : Int32) : Option (Int32 × Sg) :=
  (if a1 < 0 then some ((-1 : Int32), σ) else (if a1 ≤ (255 : Int32) then (f_X4_takes σ a1).bind (fun t3 => (if t3.1 = 0 then some ((-3 : Int32), t3.2) else some (gI t3.2 1, t3.2))) else some ((-1 : Int32), σ)))
def f_X6_clear (σ : Sg) : Option (Int32 × Sg) :=
  vl (gI σ 1) (fun x1 => vl (pI σ 1 (0 : Int32)) (fun σ2 => some (x1, σ2)))
def f_J7_fill_53178_B5 (q : Nat) (a2 : Int32) (x1 : Int32) (x2 : Int32) (σ3 : Sg) : Option ((Int32 × Sg) ⊕ (Sg)) :=
  (if x1 ≤ x2 then some (.inr σ3) else gd (okI x2 (lenA q)) (vl (pA σ3 q x2.toNatClampNeg a2) (fun σ6 => vl (x2 + (1 : Int32)) (fun x7 => some (.inl (x7, σ6))))))
def f_J7_fill_53178 (σ : Sg) (q : Nat) (a2 : Int32) : Option (Sg) :=
  vl (nI (lenA q)) (fun x1 => (wl (fun a => f_J7_fill_53178_B5 q a2 x1 a.1 a.2) FU ((0 : Int32), σ)).bind (fun t8 => some t8))
def f_X1_empty (σ : Sg) (k : Nat) (a1 : Int32) : Option (Sg) :=
  vl (if (2 : Int32) < (if a1 < (6 : Int32) then a1 else (6 : Int32)) then (if a1 < (6 : Int32) then a1 else (6 : Int32)) else (2 : Int32)) (fun x1 => vl (pI σ (4 + 2 * k) x1) (fun σ2 => vl (pI σ2 (5 + 2 * k) (0 : Int32)) (fun σ3 => (f_J7_fill_53178 σ3 (4 + 4 * k) (0 : Int32)).bind (fun t4 => some t4))))
def f_X4_letterAt (σ : Sg) (a1 : Int32) : Option (Int32) :=
  (if a1 < 0 then some (-1 : Int32) else (if (gI σ 1) ≤ a1 then some (-1 : Int32) else gd (okI a1 80) (some (gA σ 2 a1.toNatClampNeg))))
def f_X4_skipBlanks_B0 (σ1 : Sg) : Option ((Sg) ⊕ (Sg)) :=
  (if (gI σ1 1) ≤ (gI σ1 2) then some (.inr σ1) else (f_X4_letterAt σ1 (gI σ1 2)).bind (fun t3 => (if t3 = (32 : Int32) then vl ((gI σ1 2) + (1 : Int32)) (fun x5 => vl (pI σ1 2 x5) (fun σ6 => some (.inl σ6))) else some (.inr σ1))))
def f_X4_skipBlanks (σ : Sg) : Option (Sg) :=
  (wl (fun a => f_X4_skipBlanks_B0 a) FU σ).bind (fun t7 => some t7)
def f_X4_isFigure (a1 : Int32) : Option (Int32) :=
  (if a1 < (48 : Int32) then some (0 : Int32) else (if (57 : Int32) < a1 then some (0 : Int32) else some (1 : Int32)))
def f_X4_numberAhead (σ : Sg) (a1 : Int32) (a2 : Int32) : Option (Int32 × Sg) :=
  (f_X4_skipBlanks σ).bind (fun t1 => (f_X4_letterAt t1 (gI t1 2)).bind (fun t2 => (f_X4_isFigure t2).bind (fun t3 => (if t3 = 0 then some ((-1 : Int32), t1) else (f_X4_letterAt t1 ((gI t1 2) + (1 : Int32))).bind (fun t5 => (f_X4_isFigure t5).bind (fun t6 => (if t6 = 0 then (f_X4_letterAt t1 (gI t1 2)).bind (fun t8 => vl (t8 - (48 : Int32)) (fun x9 => (if x9 < a1 then some ((-1 : Int32), t1) else (if a2 < x9 then some ((-1 : Int32), t1) else some (x9, t1))))) else some ((-1 : Int32), t1))))))))
def f_X4_passesEnd (σ : Sg) : Option (Int32 × Sg) :=
  (f_X4_skipBlanks σ).bind (fun t1 => (f_X4_letterAt t1 (gI t1 2)).bind (fun t2 => (if t2 = (59 : Int32) then vl ((gI t1 2) + (1 : Int32)) (fun x4 => vl (pI t1 2 x4) (fun σ5 => some ((1 : Int32), σ5))) else some ((0 : Int32), t1))))
def f_X4_tellsNodes (σ : Sg) (kn : Nat) : Option (Int32 × Sg) :=
  (f_X4_numberAhead σ (2 : Int32) (6 : Int32)).bind (fun t1 => (if t1.1 = (-1 : Int32) then some ((0 : Int32), t1.2) else vl ((gI t1.2 2) + (1 : Int32)) (fun x3 => vl (pI t1.2 2 x3) (fun σ4 => (f_X1_empty σ4 kn t1.1).bind (fun t5 => (f_X4_passesEnd t5).bind (fun t6 => gd (okZ t6.1) (some (t6.1, t6.2))))))))
def f_X1_hasNode (σ : Sg) (k : Nat) (a1 : Int32) : Option (Int32) :=
  (if a1 < 0 then some (0 : Int32) else (if (gI σ (4 + 2 * k)) ≤ a1 then some (0 : Int32) else some (1 : Int32)))
def f_X1_widthAt (σ : Sg) (k : Nat) (a1 : Int32) (a2 : Int32) : Option (Int32) :=
  (f_X1_hasNode σ k a1).bind (fun t1 => (if t1 = 0 then some (0 : Int32) else (f_X1_hasNode σ k a2).bind (fun t3 => (if t3 = 0 then some (0 : Int32) else gd (okI ((a1 * (6 : Int32)) + a2) 36) (some (gA σ (4 + 4 * k) ((a1 * (6 : Int32)) + a2).toNatClampNeg))))))
def f_X1_numberLines_B19 (k : Nat) (x2 : Int32) (x6 : Int32) (σ7 : Sg) : Option ((Int32 × Sg) ⊕ (Sg)) :=
  (if (gI σ7 (4 + 2 * k)) ≤ x6 then some (.inr σ7) else gd (okI ((x2 * (6 : Int32)) + x6) 36) ((if (gA σ7 (4 + 4 * k) ((x2 * (6 : Int32)) + x6).toNatClampNeg) = 0 then vl (x6 + (1 : Int32)) (fun x11 => some (.inl (x11, σ7))) else (if (10 : Int32) ≤ (gI σ7 (5 + 2 * k)) then vl (x6 + (1 : Int32)) (fun x13 => some (.inl (x13, σ7))) else gd (okI (gI σ7 (5 + 2 * k)) 10) (vl (pA σ7 (5 + 4 * k) (gI σ7 (5 + 2 * k)).toNatClampNeg x2) (fun σ15 => gd (okI (gI σ15 (5 + 2 * k)) 10) (vl (pA σ15 (6 + 4 * k) (gI σ15 (5 + 2 * k)).toNatClampNeg x6) (fun σ17 => vl ((gI σ17 (5 + 2 * k)) + (1 : Int32)) (fun x18 => vl (pI σ17 (5 + 2 * k) x18) (fun σ19 => vl (x6 + (1 : Int32)) (fun x20 => some (.inl (x20, σ19)))))))))))))
def f_X1_numberLines_B7 (k : Nat) (x2 : Int32) (σ3 : Sg) : Option ((Int32 × Sg) ⊕ (Sg)) :=
  (if (gI σ3 (4 + 2 * k)) ≤ x2 then some (.inr σ3) else vl (x2 + (1 : Int32)) (fun x5 => (wl (fun a => f_X1_numberLines_B19 k x2 a.1 a.2) FU (x5, σ3)).bind (fun t21 => vl (x2 + (1 : Int32)) (fun x22 => some (.inl (x22, t21))))))
def f_X1_numberLines (σ : Sg) (k : Nat) : Option (Sg) :=
  vl (pI σ (5 + 2 * k) (0 : Int32)) (fun σ1 => (wl (fun a => f_X1_numberLines_B7 k a.1 a.2) FU ((0 : Int32), σ1)).bind (fun t23 => some t23))
def f_X1_put (σ : Sg) (k : Nat) (a1 : Int32) (a2 : Int32) (a3 : Int32) : Option (Sg) :=
  (f_X1_hasNode σ k a1).bind (fun t1 => (if t1 = 0 then some σ else (f_X1_hasNode σ k a2).bind (fun t3 => (if t3 = 0 then some σ else (if a1 = a2 then some σ else gd (okI ((a1 * (6 : Int32)) + a2) 36) (vl (pA σ (4 + 4 * k) ((a1 * (6 : Int32)) + a2).toNatClampNeg a3) (fun σ7 => gd (okI ((a2 * (6 : Int32)) + a1) 36) (vl (pA σ7 (4 + 4 * k) ((a2 * (6 : Int32)) + a1).toNatClampNeg a3) (fun σ9 => (f_X1_numberLines σ9 k).bind (fun t10 => some t10))))))))))
def f_X4_tellsLine (σ : Sg) (kn : Nat) : Option (Int32 × Sg) :=
  (f_X4_numberAhead σ (0 : Int32) ((gI σ (4 + 2 * kn)) - (1 : Int32))).bind (fun t1 => (if t1.1 = (-1 : Int32) then some ((0 : Int32), t1.2) else vl ((gI t1.2 2) + (1 : Int32)) (fun x3 => vl (pI t1.2 2 x3) (fun σ4 => (f_X4_numberAhead σ4 (0 : Int32) ((gI σ4 (4 + 2 * kn)) - (1 : Int32))).bind (fun t5 => (if t5.1 = (-1 : Int32) then some ((0 : Int32), t5.2) else (if t5.1 = t1.1 then some ((0 : Int32), t5.2) else (f_X1_widthAt t5.2 kn t1.1 t5.1).bind (fun t8 => (if t8 = 0 then vl ((gI t5.2 2) + (1 : Int32)) (fun x10 => vl (pI t5.2 2 x10) (fun σ11 => (f_X4_numberAhead σ11 (1 : Int32) (9 : Int32)).bind (fun t12 => (if t12.1 = (-1 : Int32) then some ((0 : Int32), t12.2) else vl ((gI t12.2 2) + (1 : Int32)) (fun x14 => vl (pI t12.2 2 x14) (fun σ15 => (f_X1_put σ15 kn t1.1 t5.1 t12.1).bind (fun t16 => (f_X4_passesEnd t16).bind (fun t17 => gd (okZ t17.1) (some (t17.1, t17.2)))))))))) else some ((0 : Int32), t5.2))))))))))
def f_X4_tellsItem_J38 (σ : Sg) (kn : Nat) (t1 : Int32) : Option (Int32 × Sg) :=
  (if t1 = (101 : Int32) then (if (10 : Int32) ≤ (gI σ (5 + 2 * kn)) then some ((0 : Int32), σ) else vl ((gI σ 2) + (1 : Int32)) (fun x4 => vl (pI σ 2 x4) (fun σ5 => (f_X4_tellsLine σ5 kn).bind (fun t6 => gd (okZ t6.1) (some (t6.1, t6.2)))))) else some ((0 : Int32), σ))
def f_X4_tellsItem (σ : Sg) (kn : Nat) : Option (Int32 × Sg) :=
  (f_X4_letterAt σ (gI σ 2)).bind (fun t1 => (if t1 = (110 : Int32) then (if (gI σ 3) = 0 then vl ((gI σ 2) + (1 : Int32)) (fun x10 => vl (pI σ 2 x10) (fun σ11 => (f_X4_tellsNodes σ11 kn).bind (fun t12 => gd (okZ t12.1) (some (t12.1, t12.2))))) else f_X4_tellsItem_J38 σ kn t1) else f_X4_tellsItem_J38 σ kn t1))
def f_X4_tells_B21 (kn : Nat) (x5 : Int32) (σ6 : Sg) : Option ((Int32 × Sg) ⊕ ((Sg) ⊕ (Int32 × Sg))) :=
  (if (80 : Int32) ≤ x5 then some (.inr (.inl σ6)) else (if (gI σ6 1) ≤ (gI σ6 2) then some (.inr (.inl σ6)) else (f_X4_tellsItem σ6 kn).bind (fun t9 => (if t9.1 = 0 then some (.inr (.inr ((0 : Int32), t9.2))) else vl ((gI t9.2 3) + (1 : Int32)) (fun x11 => vl (pI t9.2 3 x11) (fun σ12 => (f_X4_skipBlanks σ12).bind (fun t13 => vl (x5 + (1 : Int32)) (fun x14 => some (.inl (x14, t13))))))))))
def f_X4_tells (σ : Sg) (kn : Nat) : Option (Int32 × Sg) :=
  vl (pI σ 2 (0 : Int32)) (fun σ1 => vl (pI σ1 3 (0 : Int32)) (fun σ2 => (f_X1_empty σ2 kn (2 : Int32)).bind (fun t3 => (f_X4_skipBlanks t3).bind (fun t4 => (wl (fun a => f_X4_tells_B21 kn a.1 a.2) FU ((0 : Int32), t4)).bind (Sum.elim (fun t15 => some ((1 : Int32), t15)) (fun v => some v))))))
def f_X1_copyFrom (σ : Sg) (k : Nat) (kn : Nat) : Option (Sg) :=
  vl (gI σ (4 + 2 * kn)) (fun x1 => vl (pI σ (4 + 2 * k) x1) (fun σ2 => gd (okC (0 : Int32) (0 : Int32) (36 : Int32) 36 36) (vl (pAr σ2 (4 + 4 * k) (va_cpy (gA σ2 (4 + 4 * kn)) (gA σ2 (4 + 4 * k)) (0 : Int32).toNatClampNeg (0 : Int32).toNatClampNeg (36 : Int32).toNatClampNeg)) (fun σ4 => (f_X1_numberLines σ4 k).bind (fun t5 => some t5)))))
def f_X6_net_B51 (x6 : Int32) (σ7 : Sg) : Option ((Int32 × Sg) ⊕ (Sg)) :=
  (if (2 : Int32) ≤ x6 then some (.inr σ7) else gd (okI x6 2) (vl (pA σ7 44 x6.toNatClampNeg (0 : Int32)) (fun σ10 => vl (x6 + (1 : Int32)) (fun x11 => some (.inl (x11, σ10))))))
def f_X6_net (σ : Sg) : Option (Int32 × Sg) :=
  (f_X4_tells σ 1).bind (fun t1 => (if t1.1 = 0 then some ((-10 : Int32) - (gI t1.2 2), t1.2) else (f_X1_copyFrom t1.2 0 1).bind (fun t3 => vl (pI t3 14 (0 : Int32)) (fun σ4 => vl (pI σ4 0 (0 : Int32)) (fun σ5 => (wl (fun a => f_X6_net_B51 a.1 a.2) FU ((0 : Int32), σ5)).bind (fun t12 => vl (pI t12 1 (0 : Int32)) (fun σ13 => some (gI σ13 3, σ13))))))))
def f_X1_hasLine (σ : Sg) (k : Nat) (a1 : Int32) : Option (Int32) :=
  (if a1 < 0 then some (0 : Int32) else (if (gI σ (5 + 2 * k)) ≤ a1 then some (0 : Int32) else some (1 : Int32)))
def f_X1_lowOf (σ : Sg) (k : Nat) (a1 : Int32) : Option (Int32) :=
  (f_X1_hasLine σ k a1).bind (fun t1 => (if t1 = 0 then some (0 : Int32) else gd (okI a1 10) (some (gA σ (5 + 4 * k) a1.toNatClampNeg))))
def f_X1_highOf (σ : Sg) (k : Nat) (a1 : Int32) : Option (Int32) :=
  (f_X1_hasLine σ k a1).bind (fun t1 => (if t1 = 0 then some (0 : Int32) else gd (okI a1 10) (some (gA σ (6 + 4 * k) a1.toNatClampNeg))))
def f_X1_widthOf (σ : Sg) (k : Nat) (a1 : Int32) : Option (Int32) :=
  (f_X1_lowOf σ k a1).bind (fun t1 => (f_X1_highOf σ k a1).bind (fun t2 => (f_X1_widthAt σ k t1 t2).bind (fun t3 => some t3)))
def f_X6_line (σ : Sg) (a1 : Int32) (a2 : Int32) : Option (Int32) :=
  (f_X1_hasLine σ 0 a1).bind (fun t1 => (if t1 = 0 then some (-1 : Int32) else (if a2 < 0 then some (-1 : Int32) else (if a2 ≤ (2 : Int32) then (if a2 = 0 then (f_X1_lowOf σ 0 a1).bind (fun t9 => some t9) else (if a2 = (1 : Int32) then (f_X1_highOf σ 0 a1).bind (fun t8 => some t8) else (f_X1_widthOf σ 0 a1).bind (fun t7 => some t7))) else some (-1 : Int32)))))
def f_X1_degree_B14 (σ : Sg) (k : Nat) (a1 : Int32) (x3 : Int32) (x4 : Int32) : Option ((Int32 × Int32) ⊕ (Int32)) :=
  (if (gI σ (4 + 2 * k)) ≤ x4 then some (.inr x3) else gd (okI ((a1 * (6 : Int32)) + x4) 36) (vl (x3 + (gA σ (4 + 4 * k) ((a1 * (6 : Int32)) + x4).toNatClampNeg)) (fun x7 => vl (x4 + (1 : Int32)) (fun x8 => some (.inl (x7, x8))))))
def f_X1_degree (σ : Sg) (k : Nat) (a1 : Int32) : Option (Int32) :=
  (f_X1_hasNode σ k a1).bind (fun t1 => (if t1 = 0 then some (0 : Int32) else (wl (fun a => f_X1_degree_B14 σ k a1 a.1 a.2) FU ((0 : Int32), (0 : Int32))).bind (fun t9 => some t9)))
def f_X6_width (σ : Sg) (a1 : Int32) (a2 : Int32) : Option (Int32) :=
  (f_X1_hasNode σ 0 a1).bind (fun t1 => (if t1 = 0 then some (-1 : Int32) else (f_X1_hasNode σ 0 a2).bind (fun t3 => (if t3 = 0 then some (-1 : Int32) else (if a1 = a2 then (f_X1_degree σ 0 a1).bind (fun t7 => some t7) else (f_X1_widthAt σ 0 a1 a2).bind (fun t6 => some t6))))))
def f_X6_areTwoNodes (σ : Sg) (a1 : Int32) (a2 : Int32) : Option (Int32) :=
  (f_X1_hasNode σ 0 a1).bind (fun t1 => (if t1 = 0 then some (0 : Int32) else (f_X1_hasNode σ 0 a2).bind (fun t3 => (if t3 = 0 then some (0 : Int32) else (if a1 = a2 then some (0 : Int32) else some (1 : Int32))))))
def f_X6_isWidth (a1 : Int32) : Option (Int32) :=
  (if a1 < (1 : Int32) then some (0 : Int32) else (if (9 : Int32) < a1 then some (0 : Int32) else some (1 : Int32)))
def f_X2_loseOldest (σ : Sg) : Option (Sg) :=
  vl (pI σ 14 (11 : Int32)) (fun σ1 => gd (okC (1 : Int32) (0 : Int32) (gI σ1 14) 12 12) (vl (pAr σ1 25 (va_cpy (gA σ1 25) (gA σ1 25) (1 : Int32).toNatClampNeg (0 : Int32).toNatClampNeg (gI σ1 14).toNatClampNeg)) (fun σ3 => gd (okC (1 : Int32) (0 : Int32) (gI σ3 14) 12 12) (vl (pAr σ3 26 (va_cpy (gA σ3 26) (gA σ3 26) (1 : Int32).toNatClampNeg (0 : Int32).toNatClampNeg (gI σ3 14).toNatClampNeg)) (fun σ5 => gd (okC (1 : Int32) (0 : Int32) (gI σ5 14) 12 12) (vl (pAr σ5 27 (va_cpy (gA σ5 27) (gA σ5 27) (1 : Int32).toNatClampNeg (0 : Int32).toNatClampNeg (gI σ5 14).toNatClampNeg)) (fun σ7 => some σ7)))))))
def f_X2_notes_J13 (a1 : Int32) (a2 : Int32) (a3 : Int32) (σ1 : Sg) : Option (Sg) :=
  gd (okI (gI σ1 14) 12) (vl (pA σ1 25 (gI σ1 14).toNatClampNeg a1) (fun σ3 => gd (okI (gI σ3 14) 12) (vl (pA σ3 26 (gI σ3 14).toNatClampNeg a2) (fun σ5 => gd (okI (gI σ5 14) 12) (vl (pA σ5 27 (gI σ5 14).toNatClampNeg a3) (fun σ7 => vl ((gI σ7 14) + (1 : Int32)) (fun x8 => vl (pI σ7 14 x8) (fun σ9 => some σ9))))))))
def f_X2_notes (σ : Sg) (a1 : Int32) (a2 : Int32) (a3 : Int32) : Option (Sg) :=
  (if (gI σ 14) < (12 : Int32) then f_X2_notes_J13 a1 a2 a3 σ else (f_X2_loseOldest σ).bind (fun t11 => f_X2_notes_J13 a1 a2 a3 t11))
def f_X6_change (σ : Sg) (a1 : Int32) (a2 : Int32) (a3 : Int32) : Option (Sg) :=
  (f_X1_widthAt σ 0 a1 a2).bind (fun t1 => (f_X2_notes σ a1 a2 t1).bind (fun t2 => (f_X1_put t2 0 a1 a2 a3).bind (fun t3 => some t3)))
def f_X6_lays (σ : Sg) (a1 : Int32) (a2 : Int32) (a3 : Int32) : Option (Int32 × Sg) :=
  (f_X6_areTwoNodes σ a1 a2).bind (fun t1 => (if t1 = 0 then some ((-1 : Int32), σ) else (f_X6_isWidth a3).bind (fun t3 => (if t3 = 0 then some ((-1 : Int32), σ) else (f_X1_widthAt σ 0 a1 a2).bind (fun t5 => (if t5 = 0 then (if (gI σ 5) < (10 : Int32) then (f_X6_change σ a1 a2 a3).bind (fun t8 => some (gI t8 5, t8)) else some ((-3 : Int32), σ)) else some ((-2 : Int32), σ)))))))
def f_X6_widens (σ : Sg) (a1 : Int32) (a2 : Int32) : Option (Int32 × Sg) :=
  (f_X1_hasLine σ 0 a1).bind (fun t1 => (if t1 = 0 then some ((-1 : Int32), σ) else (f_X6_isWidth a2).bind (fun t3 => (if t3 = 0 then some ((-1 : Int32), σ) else (f_X1_widthOf σ 0 a1).bind (fun t5 => (if t5 = a2 then some ((-2 : Int32), σ) else (f_X1_lowOf σ 0 a1).bind (fun t7 => (f_X1_highOf σ 0 a1).bind (fun t8 => (f_X6_change σ t7 t8 a2).bind (fun t9 => some (t5, t9))))))))))
def f_X6_cuts (σ : Sg) (a1 : Int32) : Option (Int32 × Sg) :=
  (f_X1_hasLine σ 0 a1).bind (fun t1 => (if t1 = 0 then some ((-1 : Int32), σ) else (f_X1_lowOf σ 0 a1).bind (fun t3 => (f_X1_highOf σ 0 a1).bind (fun t4 => (f_X6_change σ t3 t4 (0 : Int32)).bind (fun t5 => some (gI t5 5, t5))))))
def f_X2_takesBack (σ : Sg) (kn : Nat) : Option (Int32 × Sg) :=
  (if 0 < (gI σ 14) then vl ((gI σ 14) - (1 : Int32)) (fun x2 => vl (pI σ 14 x2) (fun σ3 => gd (okI (gI σ3 14) 12) (gd (okI (gI σ3 14) 12) (gd (okI (gI σ3 14) 12) ((f_X1_put σ3 kn (gA σ3 25 (gI σ3 14).toNatClampNeg) (gA σ3 26 (gI σ3 14).toNatClampNeg) (gA σ3 27 (gI σ3 14).toNatClampNeg)).bind (fun t7 => some ((1 : Int32), t7))))))) else some ((0 : Int32), σ))
def f_X6_undo (σ : Sg) : Option (Int32 × Sg) :=
  (f_X2_takesBack σ 0).bind (fun t1 => (if t1.1 = 0 then some ((-2 : Int32), t1.2) else some (gI t1.2 14, t1.2)))
def f_X6_isPart (a1 : Int32) : Option (Int32) :=
  (if a1 = 0 then some (1 : Int32) else (if a1 = (1 : Int32) then some (1 : Int32) else some (0 : Int32)))
def f_X1_hangsBy_B31 (σ : Sg) (k : Nat) (a1 : Int32) (x6 : Int32) (x7 : Int32) : Option ((Int32 × Int32) ⊕ (Int32)) :=
  (if (gI σ (5 + 2 * k)) ≤ x7 then some (.inr x6) else (f_X1_lowOf σ k x7).bind (fun t9 => (f_X1_highOf σ k x7).bind (fun t10 => vl (((1 : Int32) <<< (t9 &&& 31)) ||| ((1 : Int32) <<< (t10 &&& 31))) (fun x11 => (if ((a1 >>> (x7 &&& 31)) &&& (1 : Int32)) = (1 : Int32) then (if (x6 &&& x11) = 0 then vl (x7 + (1 : Int32)) (fun x15 => some (.inl (x6, x15))) else vl (x6 ||| x11) (fun x16 => vl (x7 + (1 : Int32)) (fun x17 => some (.inl (x16, x17))))) else vl (x7 + (1 : Int32)) (fun x13 => some (.inl (x6, x13))))))))
def f_X1_hangsBy_B14 (σ : Sg) (k : Nat) (a1 : Int32) (x1 : Int32) (x2 : Int32) (x3 : Int32) : Option ((Int32 × Int32) ⊕ (Int32)) :=
  (if (gI σ (4 + 2 * k)) ≤ x3 then some (.inr x2) else (if x2 = x1 then some (.inr x2) else (wl (fun a => f_X1_hangsBy_B31 σ k a1 a.1 a.2) FU (x2, (0 : Int32))).bind (fun t18 => vl (x3 + (1 : Int32)) (fun x19 => some (.inl (t18, x19))))))
def f_X1_hangsBy (σ : Sg) (k : Nat) (a1 : Int32) : Option (Int32) :=
  vl (((1 : Int32) <<< ((gI σ (4 + 2 * k)) &&& 31)) - (1 : Int32)) (fun x1 => (wl (fun a => f_X1_hangsBy_B14 σ k a1 x1 a.1 a.2) FU ((1 : Int32), (1 : Int32))).bind (fun t20 => (if t20 = x1 then some (1 : Int32) else some (0 : Int32))))
def f_X1_hangs (σ : Sg) (k : Nat) : Option (Int32) :=
  (f_X1_hangsBy σ k (((1 : Int32) <<< ((gI σ (5 + 2 * k)) &&& 31)) - (1 : Int32))).bind (fun t1 => gd (okZ t1) (some t1))
def f_X0_addRow (σ : Sg) (a1 : Int32) : Option (Sg) :=
  (if (5 : Int32) ≤ (gI σ 15) then some σ else gd (okI (gI σ 15) 5) (vl (pA σ 35 (gI σ 15).toNatClampNeg a1) (fun σ3 => vl ((gI σ3 15) + (1 : Int32)) (fun x4 => vl (pI σ3 15 x4) (fun σ5 => some σ5)))))
def f_X0_load_B8 (kn : Nat) (a2 : Int32) (a3 : Int32) (x2 : Int32) (σ3 : Sg) : Option ((Int32 × Sg) ⊕ (Sg)) :=
  (if (gI σ3 (4 + 2 * kn)) ≤ x2 then some (.inr σ3) else (if x2 = a2 then vl (x2 + (1 : Int32)) (fun x6 => some (.inl (x6, σ3))) else (if x2 = a3 then vl (x2 + (1 : Int32)) (fun x8 => some (.inl (x8, σ3))) else (f_X0_addRow σ3 x2).bind (fun t9 => vl (x2 + (1 : Int32)) (fun x10 => some (.inl (x10, t9)))))))
def f_X0_load_B61 (kn : Nat) (x13 : Int32) (x16 : Int32) (σ17 : Sg) : Option ((Int32 × Sg) ⊕ (Sg)) :=
  (if (gI σ17 15) ≤ x16 then some (.inr σ17) else gd (okI x13 5) ((if x13 = x16 then gd (okI x13 5) ((f_X1_degree σ17 kn (gA σ17 35 x13.toNatClampNeg)).bind (fun t29 => gd (okI x16 5) (vl (pJ σ17 (30 + x13.toNatClampNeg) x16.toNatClampNeg t29.toInt64) (fun σ31 => vl (x16 + (1 : Int32)) (fun x32 => some (.inl (x32, σ31))))))) else gd (okI x13 5) (gd (okI x16 5) ((f_X1_widthAt σ17 kn (gA σ17 35 x13.toNatClampNeg) (gA σ17 35 x16.toNatClampNeg)).bind (fun t23 => vl ((-t23).toInt64) (fun x24 => gd (okI x16 5) (vl (pJ σ17 (30 + x13.toNatClampNeg) x16.toNatClampNeg x24) (fun σ26 => vl (x16 + (1 : Int32)) (fun x27 => some (.inl (x27, σ26))))))))))))
def f_X0_load_B49 (kn : Nat) (x13 : Int32) (σ14 : Sg) : Option ((Int32 × Sg) ⊕ (Sg)) :=
  (if (gI σ14 15) ≤ x13 then some (.inr σ14) else (wl (fun a => f_X0_load_B61 kn x13 a.1 a.2) FU ((0 : Int32), σ14)).bind (fun t33 => vl (x13 + (1 : Int32)) (fun x34 => some (.inl (x34, t33)))))
def f_X0_load (σ : Sg) (kn : Nat) (a2 : Int32) (a3 : Int32) : Option (Sg) :=
  vl (pI σ 15 (0 : Int32)) (fun σ1 => (wl (fun a => f_X0_load_B8 kn a2 a3 a.1 a.2) FU ((0 : Int32), σ1)).bind (fun t11 => (f_X0_addRow t11 a3).bind (fun t12 => (wl (fun a => f_X0_load_B49 kn a.1 a.2) FU ((0 : Int32), t12)).bind (fun t35 => some t35))))
def f_X0_determinant_B52 (x1 : Int64) (x2 : Int32) (x7 : Int64) (x10 : Int32) (x14 : Int32) (σ15 : Sg) : Option ((Int32 × Sg) ⊕ (Sg)) :=
  (if (gI σ15 15) ≤ x14 then some (.inr σ15) else gd (okI x10 5) (gd (okI x10 5) (gd (okI x14 5) (gd (okI x10 5) (gd (okI x2 5) (gd (okI x2 5) (gd (okI x14 5) (gd (decide (¬ x1 = 0)) (vl ((((gJ σ15 (30 + x10.toNatClampNeg) x14.toNatClampNeg) * x7) - ((gJ σ15 (30 + x10.toNatClampNeg) x2.toNatClampNeg) * (gJ σ15 (30 + x2.toNatClampNeg) x14.toNatClampNeg))) / x1) (fun x25 => gd (okI x14 5) (vl (pJ σ15 (30 + x10.toNatClampNeg) x14.toNatClampNeg x25) (fun σ27 => vl (x14 + (1 : Int32)) (fun x28 => some (.inl (x28, σ27)))))))))))))))
def f_X0_determinant_B38 (x1 : Int64) (x2 : Int32) (x7 : Int64) (x10 : Int32) (σ11 : Sg) : Option ((Int32 × Sg) ⊕ (Sg)) :=
  (if (gI σ11 15) ≤ x10 then some (.inr σ11) else vl (x2 + (1 : Int32)) (fun x13 => (wl (fun a => f_X0_determinant_B52 x1 x2 x7 x10 a.1 a.2) FU (x13, σ11)).bind (fun t29 => vl (x10 + (1 : Int32)) (fun x30 => some (.inl (x30, t29))))))
def f_X0_determinant_B4 (x1 : Int64) (x2 : Int32) (σ3 : Sg) : Option ((Int64 × Int32 × Sg) ⊕ ((Sg) ⊕ (Int64 × Sg))) :=
  (if (gI σ3 15) ≤ (x2 + (1 : Int32)) then some (.inr (.inl σ3)) else gd (okI x2 5) (gd (okI x2 5) (vl (gJ σ3 (30 + x2.toNatClampNeg) x2.toNatClampNeg) (fun x7 => (if x7 = (0 : Int64) then some (.inr (.inr ((0 : Int64), σ3))) else vl (x2 + (1 : Int32)) (fun x9 => (wl (fun a => f_X0_determinant_B38 x1 x2 x7 a.1 a.2) FU (x9, σ3)).bind (fun t31 => vl (x2 + (1 : Int32)) (fun x32 => some (.inl (x7, x32, t31))))))))))
def f_X0_determinant (σ : Sg) : Option (Int64 × Sg) :=
  (wl (fun a => f_X0_determinant_B4 a.1 a.2.1 a.2.2) FU ((1 : Int64), (0 : Int32), σ)).bind (Sum.elim (fun t33 => (if (gI t33 15) ≤ 0 then some ((0 : Int64), t33) else gd (okI ((gI t33 15) - (1 : Int32)) 5) (gd (okI ((gI t33 15) - (1 : Int32)) 5) (some (gJ t33 (30 + ((gI t33 15) - (1 : Int32)).toNatClampNeg) ((gI t33 15) - (1 : Int32)).toNatClampNeg, t33))))) (fun v => some v))
def f_X0_stepSum_B17 (kn : Nat) (x3 : Int32) (σ4 : Sg) : Option ((Int32 × Sg) ⊕ (Sg)) :=
  (if (gI σ4 15) ≤ x3 then some (.inr σ4) else gd (okI x3 5) (gd (okI x3 5) ((f_X1_degree σ4 kn (gA σ4 35 x3.toNatClampNeg)).bind (fun t8 => gd (okI ((gI σ4 15) - (1 : Int32)) 5) (vl (pJ σ4 (30 + x3.toNatClampNeg) ((gI σ4 15) - (1 : Int32)).toNatClampNeg t8.toInt64) (fun σ10 => vl (x3 + (1 : Int32)) (fun x11 => some (.inl (x11, σ10)))))))))
def f_X0_stepSum (σ : Sg) (kn : Nat) (a2 : Int32) (a3 : Int32) : Option (Int64 × Sg) :=
  (if a2 = a3 then some ((0 : Int64), σ) else (f_X0_load σ kn a3 a2).bind (fun t2 => (wl (fun a => f_X0_stepSum_B17 kn a.1 a.2) FU ((0 : Int32), t2)).bind (fun t12 => (f_X0_determinant t12).bind (fun t13 => some (t13.1, t13.2)))))
def f_X0_treeSum (σ : Sg) (kn : Nat) : Option (Int64 × Sg) :=
  (f_X0_load σ kn (0 : Int32) (1 : Int32)).bind (fun t1 => (f_X0_determinant t1).bind (fun t2 => some (t2.1, t2.2)))
def f_X6_commonDivisor_B15 (x3 : Int64) (x4 : Int64) (x5 : Int32) : Option ((Int64 × Int64 × Int32) ⊕ (Int64)) :=
  (if (100 : Int32) ≤ x5 then some (.inr x3) else (if x4 = (0 : Int64) then some (.inr x3) else gd (decide (¬ x4 = 0)) (vl (x3 - x3 / x4 * x4) (fun x9 => vl (x5 + (1 : Int32)) (fun x10 => some (.inl (x4, x9, x10)))))))
def f_X6_commonDivisor (a1 : Int64) (a2 : Int64) : Option (Int64) :=
  vl (if 0 < a1 then a1 else -a1) (fun x1 => vl (if 0 < a2 then a2 else -a2) (fun x2 => (wl (fun a => f_X6_commonDivisor_B15 a.1 a.2.1 a.2.2) FU (x1, x2, (0 : Int32))).bind (fun t11 => (if t11 ≤ (0 : Int64) then some (1 : Int64) else some t11))))
def f_X6_partOf (a1 : Int64) (a2 : Int64) (a3 : Int32) : Option (Int64) :=
  (f_X6_commonDivisor a1 a2).bind (fun t1 => (if a3 = 0 then gd (decide (¬ t1 = 0)) (some (a1 / t1)) else gd (decide (¬ t1 = 0)) (some (a2 / t1))))
def f_X6_hitting (σ : Sg) (a1 : Int32) (a2 : Int32) (a3 : Int32) : Option (Int64 × Sg) :=
  (f_X1_hasNode σ 0 a1).bind (fun t1 => (if t1 = 0 then some ((-1 : Int64), σ) else (f_X1_hasNode σ 0 a2).bind (fun t3 => (if t3 = 0 then some ((-1 : Int64), σ) else (f_X6_isPart a3).bind (fun t5 => (if t5 = 0 then some ((-1 : Int64), σ) else (f_X1_hangs σ 0).bind (fun t7 => (if t7 = 0 then some ((-2 : Int64), σ) else (f_X0_stepSum σ 0 a1 a2).bind (fun t9 => (f_X0_treeSum t9.2 0).bind (fun t10 => (f_X6_partOf t9.1 t10.1 a3).bind (fun t11 => some (t11, t10.2))))))))))))
def f_X1_whole_B4 (σ : Sg) (k : Nat) (x1 : Int32) (x2 : Int32) : Option ((Int32 × Int32) ⊕ (Int32)) :=
  (if (gI σ (5 + 2 * k)) ≤ x2 then some (.inr x1) else (f_X1_widthOf σ k x2).bind (fun t4 => vl (x1 + t4) (fun x5 => vl (x2 + (1 : Int32)) (fun x6 => some (.inl (x5, x6))))))
def f_X1_whole (σ : Sg) (k : Nat) : Option (Int32) :=
  (wl (fun a => f_X1_whole_B4 σ k a.1 a.2) FU ((0 : Int32), (0 : Int32))).bind (fun t7 => some t7)
def f_X6_between_J125 (a4 : Int32) (x13 : Int64) (t14 : Int64 × Sg) (x15 : Int64) : Option (Int64 × Sg) :=
  (f_X6_partOf x13 x15 a4).bind (fun t16 => some (t16, t14.2))
def f_X6_between (σ : Sg) (a1 : Int32) (a2 : Int32) (a3 : Int32) (a4 : Int32) : Option (Int64 × Sg) :=
  (f_X1_hasNode σ 0 a1).bind (fun t1 => (if t1 = 0 then some ((-1 : Int64), σ) else (f_X1_hasNode σ 0 a2).bind (fun t3 => (if t3 = 0 then some ((-1 : Int64), σ) else (if a3 < 0 then some ((-1 : Int64), σ) else (if (1 : Int32) < a3 then some ((-1 : Int64), σ) else (f_X6_isPart a4).bind (fun t7 => (if t7 = 0 then some ((-1 : Int64), σ) else (f_X1_hangs σ 0).bind (fun t9 => (if t9 = 0 then some ((-2 : Int64), σ) else (f_X0_stepSum σ 0 a1 a2).bind (fun t11 => (f_X0_stepSum t11.2 0 a2 a1).bind (fun t12 => vl (t11.1 + t12.1) (fun x13 => (f_X0_treeSum t12.2 0).bind (fun t14 => (if a3 = 0 then f_X6_between_J125 a4 x13 t14 t14.1 else (f_X1_whole t14.2 0).bind (fun t18 => f_X6_between_J125 a4 x13 t14 ((t14.1 * (2 : Int64)) * t18.toInt64)))))))))))))))))
def f_X0_pullSum_B19 (a3 : Int32) (x3 : Int32) (σ4 : Sg) : Option ((Int32 × Sg) ⊕ (Sg)) :=
  (if (gI σ4 15) ≤ x3 then some (.inr σ4) else gd (okI x3 5) (gd (okI x3 5) ((if (gA σ4 35 x3.toNatClampNeg) = a3 then gd (okI ((gI σ4 15) - (1 : Int32)) 5) (vl (pJ σ4 (30 + x3.toNatClampNeg) ((gI σ4 15) - (1 : Int32)).toNatClampNeg (1 : Int64)) (fun σ13 => vl (x3 + (1 : Int32)) (fun x14 => some (.inl (x14, σ13))))) else gd (okI ((gI σ4 15) - (1 : Int32)) 5) (vl (pJ σ4 (30 + x3.toNatClampNeg) ((gI σ4 15) - (1 : Int32)).toNatClampNeg (0 : Int64)) (fun σ10 => vl (x3 + (1 : Int32)) (fun x11 => some (.inl (x11, σ10)))))))))
def f_X0_pullSum (σ : Sg) (kn : Nat) (a2 : Int32) (a3 : Int32) (a4 : Int32) : Option (Int64 × Sg) :=
  (if a2 = a4 then some ((0 : Int64), σ) else (f_X0_load σ kn a4 a2).bind (fun t2 => (wl (fun a => f_X0_pullSum_B19 a3 a.1 a.2) FU ((0 : Int32), t2)).bind (fun t15 => (f_X0_determinant t15).bind (fun t16 => some (t16.1, t16.2)))))
def f_X6_ahead (σ : Sg) (a1 : Int32) (a2 : Int32) (a3 : Int32) (a4 : Int32) : Option (Int64 × Sg) :=
  (f_X1_hasNode σ 0 a1).bind (fun t1 => (if t1 = 0 then some ((-1 : Int64), σ) else (f_X6_areTwoNodes σ a2 a3).bind (fun t3 => (if t3 = 0 then some ((-1 : Int64), σ) else (f_X6_isPart a4).bind (fun t5 => (if t5 = 0 then some ((-1 : Int64), σ) else (f_X1_hangs σ 0).bind (fun t7 => (if t7 = 0 then some ((-2 : Int64), σ) else (f_X0_pullSum σ 0 a1 a2 a3).bind (fun t9 => (f_X0_pullSum t9.2 0 a2 a2 a3).bind (fun t10 => (f_X6_partOf t9.1 t10.1 a4).bind (fun t11 => some (t11, t10.2))))))))))))
def f_J7_fill_d0a16_B6 (q : Nat) (a2 : Int64) (x1 : Int32) (x2 : Int32) (σ3 : Sg) : Option ((Int32 × Sg) ⊕ (Sg)) :=
  (if x1 ≤ x2 then some (.inr σ3) else gd (okI x2 (lenJ q)) (vl (pJ σ3 q x2.toNatClampNeg a2) (fun σ6 => vl (x2 + (1 : Int32)) (fun x7 => some (.inl (x7, σ6))))))
def f_J7_fill_d0a16 (σ : Sg) (q : Nat) (a2 : Int64) : Option (Sg) :=
  vl (nI (lenJ q)) (fun x1 => (wl (fun a => f_J7_fill_d0a16_B6 q a2 x1 a.1 a.2) FU ((0 : Int32), σ)).bind (fun t8 => some t8))
def f_X5_spread_B3 (kn : Nat) (a2 : Int32) (a3 : Int32) (a4 : Int64) (x1 : Int32) (σ2 : Sg) : Option ((Int32 × Sg) ⊕ (Sg)) :=
  (if (gI σ2 (4 + 2 * kn)) ≤ x1 then some (.inr σ2) else vl ((x1 * (64 : Int32)) + (a3 ||| ((1 : Int32) <<< (x1 &&& 31)))) (fun x4 => gd (decide (¬ (lenJ (gR σ2 1)) = 0)) ((if (nI (lenJ (gR σ2 1))) ≤ x4 then vl (x1 + (1 : Int32)) (fun x7 => some (.inl (x7, σ2))) else gd (okI x4 (lenJ (gR σ2 1))) ((f_X1_widthAt σ2 kn a2 x1).bind (fun t9 => vl ((gJ σ2 (gR σ2 1) x4.toNatClampNeg) + (a4 * t9.toInt64)) (fun x10 => gd (okI x4 (lenJ (gR σ2 1))) (vl (pJ σ2 (gR σ2 1) x4.toNatClampNeg x10) (fun σ12 => vl (x1 + (1 : Int32)) (fun x13 => some (.inl (x13, σ12))))))))))))
def f_X5_spread (σ : Sg) (kn : Nat) (a2 : Int32) (a3 : Int32) (a4 : Int64) : Option (Sg) :=
  (wl (fun a => f_X5_spread_B3 kn a2 a3 a4 a.1 a.2) FU ((0 : Int32), σ)).bind (fun t14 => some t14)
def f_X5_step_B20 (kn : Nat) (x3 : Int32) (x6 : Int32) (σ7 : Sg) : Option ((Int32 × Sg) ⊕ (Sg)) :=
  (if ((1 : Int32) <<< ((gI σ7 (4 + 2 * kn)) &&& 31)) ≤ x6 then some (.inr σ7) else gd (okI ((x3 * (64 : Int32)) + x6) (lenJ (gR σ7 0))) (vl (gJ σ7 (gR σ7 0) ((x3 * (64 : Int32)) + x6).toNatClampNeg) (fun x10 => (if x10 = (0 : Int64) then vl (x6 + (1 : Int32)) (fun x12 => some (.inl (x12, σ7))) else (f_X5_spread σ7 kn x3 x6 x10).bind (fun t13 => vl (x6 + (1 : Int32)) (fun x14 => some (.inl (x14, t13))))))))
def f_X5_step_B10 (kn : Nat) (x3 : Int32) (σ4 : Sg) : Option ((Int32 × Sg) ⊕ (Sg)) :=
  (if (gI σ4 (4 + 2 * kn)) ≤ x3 then some (.inr σ4) else (wl (fun a => f_X5_step_B20 kn x3 a.1 a.2) FU ((0 : Int32), σ4)).bind (fun t15 => vl (x3 + (1 : Int32)) (fun x16 => some (.inl (x16, t15)))))
def f_X5_step (σ : Sg) (kn : Nat) : Option (Sg) :=
  gd (decide (¬ (lenJ (gR σ 1)) = 0)) ((f_J7_fill_d0a16 σ (gR σ 1) (0 : Int64)).bind (fun t2 => (wl (fun a => f_X5_step_B10 kn a.1 a.2) FU ((0 : Int32), t2)).bind (fun t17 => vl (pR t17 0 (gR t17 1)) (fun σ18 => vl (pR σ18 1 (gR t17 0)) (fun σ19 => some σ19)))))
def f_X5_goes_B34 (kn : Nat) (a3 : Int32) (x7 : Int32) (σ8 : Sg) : Option ((Int32 × Sg) ⊕ (Sg)) :=
  (if a3 ≤ x7 then some (.inr σ8) else (f_X5_step σ8 kn).bind (fun t10 => vl (x7 + (1 : Int32)) (fun x11 => some (.inl (x11, t10)))))
def f_X5_goes (σ : Sg) (kn : Nat) (a2 : Int32) (a3 : Int32) : Option (Sg) :=
  gd (decide (¬ (lenJ (gR σ 0)) = 0)) ((f_J7_fill_d0a16 σ (gR σ 0) (0 : Int64)).bind (fun t2 => (f_X1_hasNode t2 kn a2).bind (fun t3 => (if t3 = 0 then some t2 else gd (okI ((a2 * (64 : Int32)) + ((1 : Int32) <<< (a2 &&& 31))) (lenJ (gR t2 0))) (vl (pJ t2 (gR t2 0) ((a2 * (64 : Int32)) + ((1 : Int32) <<< (a2 &&& 31))).toNatClampNeg (1 : Int64)) (fun σ6 => (wl (fun a => f_X5_goes_B34 kn a3 a.1 a.2) FU ((0 : Int32), σ6)).bind (fun t12 => some t12)))))))
def f_X5_sum_J62 (σ : Sg) (x3 : Int32) (x5 : Int64) (x6 : Int32) : Option ((Int64 × Int32) ⊕ (Int64)) :=
  gd (okI ((x3 * (64 : Int32)) + x6) (lenJ (gR σ 0))) (vl (x5 + (gJ σ (gR σ 0) ((x3 * (64 : Int32)) + x6).toNatClampNeg)) (fun x9 => vl (x6 + (1 : Int32)) (fun x10 => some (.inl (x9, x10)))))
def f_X5_sum_J50 (σ : Sg) (a3 : Int32) (x1 : Int32) (x3 : Int32) (x5 : Int64) (x6 : Int32) : Option ((Int64 × Int32) ⊕ (Int64)) :=
  (if a3 = (2 : Int32) then (if x6 = x1 then f_X5_sum_J62 σ x3 x5 x6 else vl (x6 + (1 : Int32)) (fun x15 => some (.inl (x5, x15)))) else vl (x6 + (1 : Int32)) (fun x13 => some (.inl (x5, x13))))
def f_X5_sum_B28 (σ : Sg) (a2 : Int32) (a3 : Int32) (x1 : Int32) (x3 : Int32) (x5 : Int64) (x6 : Int32) : Option ((Int64 × Int32) ⊕ (Int64)) :=
  (if x1 < x6 then some (.inr x5) else (if a3 = 0 then f_X5_sum_J62 σ x3 x5 x6 else (if a3 = (1 : Int32) then (if x3 = a2 then f_X5_sum_J62 σ x3 x5 x6 else f_X5_sum_J50 σ a3 x1 x3 x5 x6) else f_X5_sum_J50 σ a3 x1 x3 x5 x6)))
def f_X5_sum_B16 (σ : Sg) (kn : Nat) (a2 : Int32) (a3 : Int32) (x1 : Int32) (x2 : Int64) (x3 : Int32) : Option ((Int64 × Int32) ⊕ (Int64)) :=
  (if (gI σ (4 + 2 * kn)) ≤ x3 then some (.inr x2) else (wl (fun a => f_X5_sum_B28 σ a2 a3 x1 x3 a.1 a.2) FU (x2, (0 : Int32))).bind (fun t18 => vl (x3 + (1 : Int32)) (fun x19 => some (.inl (t18, x19)))))
def f_X5_sum (σ : Sg) (kn : Nat) (a2 : Int32) (a3 : Int32) : Option (Int64) :=
  vl (((1 : Int32) <<< ((gI σ (4 + 2 * kn)) &&& 31)) - (1 : Int32)) (fun x1 => (wl (fun a => f_X5_sum_B16 σ kn a2 a3 x1 a.1 a.2) FU ((0 : Int64), (0 : Int32))).bind (fun t20 => some t20))
def f_X6_walks (σ : Sg) (a1 : Int32) (a2 : Int32) (a3 : Int32) : Option (Int64 × Sg) :=
  (f_X1_hasNode σ 0 a1).bind (fun t1 => (if t1 = 0 then some ((-1 : Int64), σ) else (if a2 < 0 then some ((-1 : Int64), σ) else (if (6 : Int32) < a2 then some ((-1 : Int64), σ) else (if a3 < 0 then some ((-1 : Int64), σ) else (if a3 ≤ (2 : Int32) then (f_X5_goes σ 0 a1 a2).bind (fun t7 => (f_X5_sum t7 0 a1 a3).bind (fun t8 => some (t8, t7))) else some ((-1 : Int64), σ)))))))
def f_X6_trees (σ : Sg) : Option (Int64 × Sg) :=
  (f_X0_treeSum σ 0).bind (fun t1 => some (t1.1, t1.2))
def f_X6_leaveOut (σ : Sg) (a1 : Int32) : Option (Sg) :=
  (f_X1_copyFrom σ 2 0).bind (fun t1 => (f_X1_lowOf t1 0 a1).bind (fun t2 => (f_X1_highOf t1 0 a1).bind (fun t3 => (f_X1_put t1 2 t2 t3 (0 : Int32)).bind (fun t4 => some t4))))
def f_X6_treesWithout (σ : Sg) (a1 : Int32) : Option (Int64 × Sg) :=
  (f_X6_leaveOut σ a1).bind (fun t1 => (f_X0_treeSum t1 2).bind (fun t2 => some (t2.1, t2.2)))
def f_X6_share (σ : Sg) (a1 : Int32) (a2 : Int32) : Option (Int64 × Sg) :=
  (f_X1_hasLine σ 0 a1).bind (fun t1 => (if t1 = 0 then some ((-1 : Int64), σ) else (f_X6_isPart a2).bind (fun t3 => (if t3 = 0 then some ((-1 : Int64), σ) else (f_X1_hangs σ 0).bind (fun t5 => (if t5 = 0 then some ((-2 : Int64), σ) else (f_X0_treeSum σ 0).bind (fun t7 => (f_X6_treesWithout t7.2 a1).bind (fun t8 => (f_X6_partOf (t7.1 - t8.1) t7.1 a2).bind (fun t9 => some (t9, t8.2))))))))))
def f_X6_countRests_B2 (x1 : Int32) (σ2 : Sg) : Option ((Int32 × Sg) ⊕ (Sg)) :=
  (if (gI σ2 5) ≤ x1 then some (.inr σ2) else (f_X6_treesWithout σ2 x1).bind (fun t4 => gd (okI x1 10) (vl (pJ t4.2 23 x1.toNatClampNeg t4.1) (fun σ6 => vl (x1 + (1 : Int32)) (fun x7 => some (.inl (x7, σ6)))))))
def f_X6_countRests (σ : Sg) : Option (Sg) :=
  (wl (fun a => f_X6_countRests_B2 a.1 a.2) FU ((0 : Int32), σ)).bind (fun t8 => some t8)
def f_X6_linesRankedAhead_B4 (σ : Sg) (a1 : Int32) (x1 : Int32) (x2 : Int32) : Option ((Int32 × Int32) ⊕ (Int32)) :=
  (if (gI σ 5) ≤ x2 then some (.inr x1) else gd (okI x2 10) (gd (okI a1 10) ((if (gJ σ 23 x2.toNatClampNeg) < (gJ σ 23 a1.toNatClampNeg) then vl (x1 + (1 : Int32)) (fun x7 => vl (x2 + (1 : Int32)) (fun x8 => some (.inl (x7, x8)))) else gd (okI x2 10) (gd (okI a1 10) ((if (gJ σ 23 x2.toNatClampNeg) = (gJ σ 23 a1.toNatClampNeg) then (if a1 ≤ x2 then vl (x2 + (1 : Int32)) (fun x14 => some (.inl (x1, x14))) else vl (x1 + (1 : Int32)) (fun x15 => vl (x2 + (1 : Int32)) (fun x16 => some (.inl (x15, x16))))) else vl (x2 + (1 : Int32)) (fun x12 => some (.inl (x1, x12))))))))))
def f_X6_linesRankedAhead (σ : Sg) (a1 : Int32) : Option (Int32) :=
  (wl (fun a => f_X6_linesRankedAhead_B4 σ a1 a.1 a.2) FU ((0 : Int32), (0 : Int32))).bind (fun t17 => some t17)
def f_X6_rank_B25 (a1 : Int32) (t4 : Sg) (x5 : Int32) : Option ((Int32) ⊕ ((Unit) ⊕ (Int32 × Sg))) :=
  (if (gI t4 5) ≤ x5 then some (.inr (.inl ())) else (f_X6_linesRankedAhead t4 x5).bind (fun t7 => (if t7 = a1 then some (.inr (.inr (x5, t4))) else vl (x5 + (1 : Int32)) (fun x9 => some (.inl x9)))))
def f_X6_rank (σ : Sg) (a1 : Int32) : Option (Int32 × Sg) :=
  (if 0 ≤ a1 then (f_X1_hangs σ 0).bind (fun t2 => (if t2 = 0 then some ((-2 : Int32), σ) else (f_X6_countRests σ).bind (fun t4 => (wl (fun a => f_X6_rank_B25 a1 t4 a) FU (0 : Int32)).bind (Sum.elim (fun t10 => some ((-9 : Int32), t4)) (fun v => some v))))) else some ((-1 : Int32), σ))
def f_X3_isPair (σ : Sg) (a1 : Int32) (a2 : Int32) : Option (Int32) :=
  (if a1 < 0 then some (0 : Int32) else (if (gI σ 16) ≤ a1 then some (0 : Int32) else (if a2 < 0 then some (0 : Int32) else (if (gI σ 16) ≤ a2 then some (0 : Int32) else some (1 : Int32)))))
def f_X3_put (σ : Sg) (a1 : Int32) (a2 : Int32) (a3 : Int64) (a4 : Int64) : Option (Sg) :=
  (f_X3_isPair σ a1 a2).bind (fun t1 => (if t1 = 0 then some σ else gd (okI ((a1 * (6 : Int32)) + a2) 36) (vl (pJ σ 40 ((a1 * (6 : Int32)) + a2).toNatClampNeg a3) (fun σ4 => gd (okI ((a1 * (6 : Int32)) + a2) 36) (vl (pJ σ4 41 ((a1 * (6 : Int32)) + a2).toNatClampNeg a4) (fun σ6 => gd (okI ((a2 * (6 : Int32)) + a1) 36) (vl (pJ σ6 40 ((a2 * (6 : Int32)) + a1).toNatClampNeg a3) (fun σ8 => gd (okI ((a2 * (6 : Int32)) + a1) 36) (vl (pJ σ8 41 ((a2 * (6 : Int32)) + a1).toNatClampNeg a4) (fun σ10 => some σ10))))))))))
def f_X3_load_B20 (kn : Nat) (x3 : Int32) (x6 : Int32) (σ7 : Sg) : Option ((Int32 × Sg) ⊕ (Sg)) :=
  (if (gI σ7 16) ≤ x6 then some (.inr σ7) else (f_X1_widthAt σ7 kn x3 x6).bind (fun t9 => (f_X3_put σ7 x3 x6 (1 : Int64) t9.toInt64).bind (fun t10 => vl (x6 + (1 : Int32)) (fun x11 => some (.inl (x11, t10))))))
def f_X3_load_B10 (kn : Nat) (x3 : Int32) (σ4 : Sg) : Option ((Int32 × Sg) ⊕ (Sg)) :=
  (if (gI σ4 16) ≤ x3 then some (.inr σ4) else (wl (fun a => f_X3_load_B20 kn x3 a.1 a.2) FU ((0 : Int32), σ4)).bind (fun t12 => vl (x3 + (1 : Int32)) (fun x13 => some (.inl (x13, t12)))))
def f_X3_load (σ : Sg) (kn : Nat) : Option (Sg) :=
  vl (gI σ (4 + 2 * kn)) (fun x1 => vl (pI σ 16 x1) (fun σ2 => (wl (fun a => f_X3_load_B10 kn a.1 a.2) FU ((0 : Int32), σ2)).bind (fun t14 => some t14)))
def f_X3_lowerAt (σ : Sg) (a1 : Int32) (a2 : Int32) : Option (Int64) :=
  (f_X3_isPair σ a1 a2).bind (fun t1 => (if t1 = 0 then some (0 : Int64) else gd (okI ((a1 * (6 : Int32)) + a2) 36) (some (gJ σ 41 ((a1 * (6 : Int32)) + a2).toNatClampNeg))))
def f_X3_joined (σ : Sg) (a1 : Int32) (a2 : Int32) : Option (Int32) :=
  (f_X3_lowerAt σ a1 a2).bind (fun t1 => (if t1 = (0 : Int64) then some (0 : Int32) else some (1 : Int32)))
def f_X3_linesAt_B4 (σ : Sg) (a1 : Int32) (x1 : Int32) (x2 : Int32) : Option ((Int32 × Int32) ⊕ (Int32)) :=
  (if (gI σ 16) ≤ x2 then some (.inr x1) else (f_X3_joined σ a1 x2).bind (fun t4 => (if t4 = 0 then vl (x2 + (1 : Int32)) (fun x6 => some (.inl (x1, x6))) else vl (x1 + (1 : Int32)) (fun x7 => vl (x2 + (1 : Int32)) (fun x8 => some (.inl (x7, x8)))))))
def f_X3_linesAt (σ : Sg) (a1 : Int32) : Option (Int32) :=
  (wl (fun a => f_X3_linesAt_B4 σ a1 a.1 a.2) FU ((0 : Int32), (0 : Int32))).bind (fun t9 => some t9)
def f_X3_lowestToGo_B2 (σ : Sg) (a1 : Int32) (a2 : Int32) (x1 : Int32) : Option ((Int32) ⊕ ((Unit) ⊕ (Int32))) :=
  (if (gI σ 16) ≤ x1 then some (.inr (.inl ())) else (f_X3_linesAt σ x1).bind (fun t3 => (if x1 = a1 then vl (x1 + (1 : Int32)) (fun x5 => some (.inl x5)) else (if x1 = a2 then vl (x1 + (1 : Int32)) (fun x7 => some (.inl x7)) else (if t3 = (1 : Int32) then some (.inr (.inr x1)) else (if t3 = (2 : Int32) then some (.inr (.inr x1)) else vl (x1 + (1 : Int32)) (fun x10 => some (.inl x10))))))))
def f_X3_lowestToGo (σ : Sg) (a1 : Int32) (a2 : Int32) : Option (Int32) :=
  (wl (fun a => f_X3_lowestToGo_B2 σ a1 a2 a) FU (0 : Int32)).bind (Sum.elim (fun t11 => some (-9 : Int32)) (fun v => some v))
def f_X3_neighbourFrom_B2 (σ : Sg) (a1 : Int32) (x1 : Int32) : Option ((Int32) ⊕ ((Unit) ⊕ (Int32))) :=
  (if (gI σ 16) ≤ x1 then some (.inr (.inl ())) else (f_X3_joined σ a1 x1).bind (fun t3 => (if t3 = 0 then vl (x1 + (1 : Int32)) (fun x5 => some (.inl x5)) else some (.inr (.inr x1)))))
def f_X3_neighbourFrom (σ : Sg) (a1 : Int32) (a2 : Int32) : Option (Int32) :=
  (wl (fun a => f_X3_neighbourFrom_B2 σ a1 a) FU a2).bind (Sum.elim (fun t6 => some (gI σ 16)) (fun v => some v))
def f_X3_upperAt (σ : Sg) (a1 : Int32) (a2 : Int32) : Option (Int64) :=
  (f_X3_isPair σ a1 a2).bind (fun t1 => (if t1 = 0 then some (1 : Int64) else gd (okI ((a1 * (6 : Int32)) + a2) 36) (some (gJ σ 40 ((a1 * (6 : Int32)) + a2).toNatClampNeg))))
def f_X3_laysBeside (σ : Sg) (a1 : Int32) (a2 : Int32) (a3 : Int64) (a4 : Int64) : Option (Sg) :=
  (f_X3_joined σ a1 a2).bind (fun t1 => (if t1 = 0 then (f_X3_put σ a1 a2 a3 a4).bind (fun t12 => some t12) else (f_X3_upperAt σ a1 a2).bind (fun t3 => vl (a3 * t3) (fun x4 => (f_X3_lowerAt σ a1 a2).bind (fun t5 => (f_X3_upperAt σ a1 a2).bind (fun t6 => vl ((a3 * t5) + (a4 * t6)) (fun x7 => (f_X6_commonDivisor x4 x7).bind (fun t8 => gd (decide (¬ t8 = 0)) (gd (decide (¬ t8 = 0)) ((f_X3_put σ a1 a2 (x4 / t8) (x7 / t8)).bind (fun t11 => some t11)))))))))))
def f_X3_drop_J101 (a1 : Int32) (t1 : Int32) (σ3 : Sg) : Option (Sg) :=
  (f_X3_put σ3 a1 t1 (1 : Int64) (0 : Int64)).bind (fun t4 => some t4)
def f_X3_drop (σ : Sg) (a1 : Int32) : Option (Sg) :=
  (f_X3_neighbourFrom σ a1 (0 : Int32)).bind (fun t1 => (f_X3_neighbourFrom σ a1 (t1 + (1 : Int32))).bind (fun t2 => (if (gI σ 16) ≤ t2 then f_X3_drop_J101 a1 t1 σ else (f_X3_upperAt σ a1 t1).bind (fun t6 => (f_X3_lowerAt σ a1 t2).bind (fun t7 => (f_X3_upperAt σ a1 t2).bind (fun t8 => (f_X3_lowerAt σ a1 t1).bind (fun t9 => vl ((t6 * t7) + (t8 * t9)) (fun x10 => (f_X3_lowerAt σ a1 t1).bind (fun t11 => (f_X3_lowerAt σ a1 t2).bind (fun t12 => vl (t11 * t12) (fun x13 => (f_X6_commonDivisor x10 x13).bind (fun t14 => gd (decide (¬ t14 = 0)) (gd (decide (¬ t14 = 0)) ((f_X3_laysBeside σ t1 t2 (x10 / t14) (x13 / t14)).bind (fun t17 => (f_X3_put t17 a1 t2 (1 : Int64) (0 : Int64)).bind (fun t18 => f_X3_drop_J101 a1 t1 t18))))))))))))))))
def f_X3_reduces_B8 (a2 : Int32) (a3 : Int32) (x2 : Int32) (σ3 : Sg) : Option ((Int32 × Sg) ⊕ ((Sg) ⊕ (Sg))) :=
  (if (gI σ3 16) ≤ x2 then some (.inr (.inl σ3)) else (f_X3_lowestToGo σ3 a2 a3).bind (fun t5 => (if t5 = (-9 : Int32) then some (.inr (.inr σ3)) else (f_X3_drop σ3 t5).bind (fun t7 => vl (x2 + (1 : Int32)) (fun x8 => some (.inl (x8, t7)))))))
def f_X3_reduces (σ : Sg) (kn : Nat) (a2 : Int32) (a3 : Int32) : Option (Sg) :=
  (f_X3_load σ kn).bind (fun t1 => (wl (fun a => f_X3_reduces_B8 a2 a3 a.1 a.2) FU ((0 : Int32), t1)).bind (Sum.elim (fun t9 => some t9) (fun v => some v)))
def f_X3_linesLeft_B4 (σ : Sg) (x1 : Int32) (x2 : Int32) : Option ((Int32 × Int32) ⊕ (Int32)) :=
  (if (gI σ 16) ≤ x2 then some (.inr x1) else (f_X3_linesAt σ x2).bind (fun t4 => vl (x1 + t4) (fun x5 => vl (x2 + (1 : Int32)) (fun x6 => some (.inl (x5, x6))))))
def f_X3_linesLeft (σ : Sg) : Option (Int32) :=
  (wl (fun a => f_X3_linesLeft_B4 σ a.1 a.2) FU ((0 : Int32), (0 : Int32))).bind (fun t7 => some (t7 / (2 : Int32)))
def f_X6_reduced (σ : Sg) (a1 : Int32) (a2 : Int32) (a3 : Int32) : Option (Int64 × Sg) :=
  (f_X6_areTwoNodes σ a1 a2).bind (fun t1 => (if t1 = 0 then some ((-1 : Int64), σ) else (if a3 < 0 then some ((-1 : Int64), σ) else (if a3 ≤ (2 : Int32) then (f_X1_hangs σ 0).bind (fun t5 => (if t5 = 0 then some ((-2 : Int64), σ) else (f_X3_reduces σ 0 a1 a2).bind (fun t7 => (f_X3_linesLeft t7).bind (fun t8 => (if a3 = 0 then some (t8.toInt64, t7) else (if t8 = (1 : Int32) then (f_X3_joined t7 a1 a2).bind (fun t11 => (if t11 = 0 then some ((-9 : Int64), t7) else (if a3 = (1 : Int32) then (f_X3_upperAt t7 a1 a2).bind (fun t15 => some (t15, t7)) else (f_X3_lowerAt t7 a1 a2).bind (fun t14 => some (t14, t7))))) else some ((-9 : Int64), t7))))))) else some ((-1 : Int64), σ)))))
def f_X6_worst_B36 (a1 : Int32) (a2 : Int32) (x5 : Int32) (x6 : Int64) (x7 : Int64) (x8 : Int32) (σ9 : Sg) : Option ((Int32 × Int64 × Int64 × Int32 × Sg) ⊕ (Int32 × Sg)) :=
  (if (gI σ9 5) ≤ x8 then some (.inr (x5, σ9)) else (f_X6_leaveOut σ9 x8).bind (fun t11 => (f_X1_hangs t11 2).bind (fun t12 => (if t12 = 0 then vl (x8 + (1 : Int32)) (fun x14 => some (.inl (x5, x6, x7, x14, t11))) else (f_X0_stepSum t11 2 a1 a2).bind (fun t15 => (f_X0_treeSum t15.2 2).bind (fun t16 => (if (t15.1 * x7) ≤ (x6 * t16.1) then vl (x8 + (1 : Int32)) (fun x18 => some (.inl (x5, x6, x7, x18, t16.2))) else vl (x8 + (1 : Int32)) (fun x19 => some (.inl (x8, t15.1, t16.1, x19, t16.2))))))))))
def f_X6_worst (σ : Sg) (a1 : Int32) (a2 : Int32) : Option (Int32 × Sg) :=
  (f_X6_areTwoNodes σ a1 a2).bind (fun t1 => (if t1 = 0 then some ((-1 : Int32), σ) else (f_X1_hangs σ 0).bind (fun t3 => (if t3 = 0 then some ((-2 : Int32), σ) else (wl (fun a => f_X6_worst_B36 a1 a2 a.1 a.2.1 a.2.2.1 a.2.2.2.1 a.2.2.2.2) FU ((-9 : Int32), (0 : Int64), (1 : Int64), (0 : Int32), σ)).bind (fun t20 => some (t20.1, t20.2))))))
def f_J6_bitCount_0f7a4 (a1 : Int32) : Option (Int32) :=
  vl (a1 - (((a1.toUInt32 >>> ((1 : Int32).toUInt32 &&& Int32.toUInt32 31)).toInt32) &&& (1431655765 : Int32))) (fun x1 => vl ((x1 &&& (858993459 : Int32)) + (((x1.toUInt32 >>> ((2 : Int32).toUInt32 &&& Int32.toUInt32 31)).toInt32) &&& (858993459 : Int32))) (fun x2 => vl ((x2 + ((x2.toUInt32 >>> ((4 : Int32).toUInt32 &&& Int32.toUInt32 31)).toInt32)) &&& (252645135 : Int32)) (fun x3 => vl (x3 + ((x3.toUInt32 >>> ((8 : Int32).toUInt32 &&& Int32.toUInt32 31)).toInt32)) (fun x4 => vl (x4 + ((x4.toUInt32 >>> ((16 : Int32).toUInt32 &&& Int32.toUInt32 31)).toInt32)) (fun x5 => some (x5 &&& (63 : Int32)))))))
def f_X6_power_B5 (a1 : Int32) (a2 : Int32) (x1 : Int64) (x2 : Int32) : Option ((Int64 × Int32) ⊕ (Int64)) :=
  (if a2 ≤ x2 then some (.inr x1) else vl (x1 * a1.toInt64) (fun x4 => vl (x2 + (1 : Int32)) (fun x5 => some (.inl (x4, x5)))))
def f_X6_power (a1 : Int32) (a2 : Int32) : Option (Int64) :=
  (wl (fun a => f_X6_power_B5 a1 a2 a.1 a.2) FU ((1 : Int64), (0 : Int32))).bind (fun t6 => some t6)
def f_X6_odds_B35 (σ : Sg) (a1 : Int32) (x5 : Int32) (x6 : Int64) (x7 : Int32) : Option ((Int64 × Int32) ⊕ (Int64)) :=
  (if ((1 : Int32) <<< (x5 &&& 31)) ≤ x7 then some (.inr x6) else (f_X1_hangsBy σ 0 x7).bind (fun t9 => (if t9 = 0 then vl (x7 + (1 : Int32)) (fun x11 => some (.inl (x6, x11))) else (f_J6_bitCount_0f7a4 x7).bind (fun t12 => (f_X6_power ((10 : Int32) - a1) t12).bind (fun t13 => (f_X6_power a1 (x5 - t12)).bind (fun t14 => vl (x6 + (t13 * t14)) (fun x15 => vl (x7 + (1 : Int32)) (fun x16 => some (.inl (x15, x16))))))))))
def f_X6_odds (σ : Sg) (a1 : Int32) (a2 : Int32) : Option (Int64) :=
  (if a1 < 0 then some (-1 : Int64) else (if (10 : Int32) < a1 then some (-1 : Int64) else (f_X6_isPart a2).bind (fun t3 => (if t3 = 0 then some (-1 : Int64) else vl (gI σ 5) (fun x5 => (wl (fun a => f_X6_odds_B35 σ a1 x5 a.1 a.2) FU ((0 : Int64), (0 : Int32))).bind (fun t17 => (f_X6_power (10 : Int32) x5).bind (fun t18 => (f_X6_partOf t17 t18 a2).bind (fun t19 => some t19))))))))
def f_X6_sees (σ : Sg) (a1 : Int64) : Option (Int32 × Sg) :=
  (if (0 : Int64) ≤ a1 then (if (gI σ 0) < (6 : Int32) then gd (okI (gI σ 0) 6) (vl (pJ σ 42 (gI σ 0).toNatClampNeg a1) (fun σ4 => vl ((gI σ4 0) + (1 : Int32)) (fun x5 => vl (pI σ4 0 x5) (fun σ6 => some (gI σ6 0, σ6))))) else some ((-3 : Int32), σ)) else some ((-1 : Int32), σ))
def f_X6_forget (σ : Sg) : Option (Int32 × Sg) :=
  vl (gI σ 0) (fun x1 => vl (pI σ 0 (0 : Int32)) (fun σ2 => some (x1, σ2)))
def f_X6_allSeenAre_B2 (σ : Sg) (a1 : Int64) (x1 : Int32) : Option ((Int32) ⊕ ((Unit) ⊕ (Int32))) :=
  (if (gI σ 0) ≤ x1 then some (.inr (.inl ())) else gd (okI x1 6) ((if (gJ σ 42 x1.toNatClampNeg) = a1 then vl (x1 + (1 : Int32)) (fun x5 => some (.inl x5)) else some (.inr (.inr (0 : Int32))))))
def f_X6_allSeenAre (σ : Sg) (a1 : Int64) : Option (Int32) :=
  (wl (fun a => f_X6_allSeenAre_B2 σ a1 a) FU (0 : Int32)).bind (Sum.elim (fun t6 => some (1 : Int32)) (fun v => some v))
def f_X6_unseen_B8 (t1 : Sg) (x2 : Int32) (x3 : Int32) : Option ((Int32 × Int32) ⊕ (Int32)) :=
  (if (gI t1 5) ≤ x3 then some (.inr x2) else gd (okI x3 10) ((f_X6_allSeenAre t1 (gJ t1 23 x3.toNatClampNeg)).bind (fun t6 => (if t6 = 0 then vl (x3 + (1 : Int32)) (fun x8 => some (.inl (x2, x8))) else vl (x2 ||| ((1 : Int32) <<< (x3 &&& 31))) (fun x9 => vl (x3 + (1 : Int32)) (fun x10 => some (.inl (x9, x10))))))))
def f_X6_unseen (σ : Sg) : Option (Int32 × Sg) :=
  (f_X6_countRests σ).bind (fun t1 => (wl (fun a => f_X6_unseen_B8 t1 a.1 a.2) FU ((0 : Int32), (0 : Int32))).bind (fun t11 => some (t11, t1)))
def f_X6_isImage (a1 : Int32) : Option (Int32) :=
  (if a1 < 0 then some (0 : Int32) else (if (2 : Int32) ≤ a1 then some (0 : Int32) else some (1 : Int32)))
def f_X6_keep (σ : Sg) (a1 : Int32) : Option (Int32 × Sg) :=
  (f_X6_isImage a1).bind (fun t1 => (if t1 = 0 then some ((-1 : Int32), σ) else gd (okI a1 2) ((f_X1_copyFrom σ (3 + a1.toNatClampNeg) 0).bind (fun t4 => gd (okI a1 2) (vl (pA t4 44 a1.toNatClampNeg (1 : Int32)) (fun σ6 => some (gI σ6 4, σ6)))))))
def f_X6_back (σ : Sg) (a1 : Int32) : Option (Int32 × Sg) :=
  (f_X6_isImage a1).bind (fun t1 => (if t1 = 0 then some ((-1 : Int32), σ) else gd (okI a1 2) ((if (gA σ 44 a1.toNatClampNeg) = 0 then some ((-2 : Int32), σ) else gd (okI a1 2) ((f_X1_copyFrom σ 0 (3 + a1.toNatClampNeg)).bind (fun t6 => vl (pI t6 14 (0 : Int32)) (fun σ7 => some (gI σ7 4, σ7))))))))
def f_X6_count (σ : Sg) (a1 : Int32) : Option (Int32) :=
  (if a1 = (0 : Int32) then some (gI σ 4) else (if a1 = (1 : Int32) then some (gI σ 5) else (if a1 = (2 : Int32) then (f_X1_whole σ 0).bind (fun t1 => some t1) else (if a1 = (3 : Int32) then (f_X1_hangs σ 0).bind (fun t2 => (if t2 = 0 then some (0 : Int32) else some (1 : Int32))) else (if a1 = (4 : Int32) then some (gI σ 0) else (if a1 = (5 : Int32) then some (gI σ 1) else (if a1 = (6 : Int32) then some (gI σ 14) else some (-1 : Int32))))))))
def f_X7_in (a1 : Int64) (a2 : Int64) (a3 : Int64) : Option (Int32) :=
  (if a1 < a2 then some (0 : Int32) else (if a3 < a1 then some (0 : Int32) else some (1 : Int32)))
def f_X7_copyRow_B2 (a1 : Int32) (a2 : Int32) (x1 : Int32) (σ2 : Sg) : Option ((Int32 × Sg) ⊕ (Sg)) :=
  (if (31 : Int32) ≤ x1 then some (.inr σ2) else gd (okI (a1 + x1) 496) (vl (gA σ2 46 (a1 + x1).toNatClampNeg) (fun x5 => gd (okI (a2 + x1) 496) (vl (pA σ2 46 (a2 + x1).toNatClampNeg x5) (fun σ7 => vl (x1 + (1 : Int32)) (fun x8 => some (.inl (x8, σ7))))))))
def f_X7_copyRow (σ : Sg) (a1 : Int32) (a2 : Int32) : Option (Sg) :=
  (wl (fun a => f_X7_copyRow_B2 a1 a2 a.1 a.2) FU ((0 : Int32), σ)).bind (fun t9 => some t9)
def f_X7_lines (σ : Sg) : Option (Int32) :=
  gd (okI (0 : Int32) 496) (some (gA σ 46 (0 : Int32).toNatClampNeg))
def f_X7_lineOf_B19 (σ : Sg) (a1 : Int32) (a2 : Int32) (a3 : Int32) (x1 : Int32) (x2 : Int32) (x3 : Int32) : Option ((Int32 × Int32) ⊕ (Int32)) :=
  gd (okI (a1 + (0 : Int32)) 496) ((if (gA σ 46 (a1 + (0 : Int32)).toNatClampNeg) ≤ x3 then some (.inr x2) else gd (okI ((a1 + (1 : Int32)) + x3) 496) ((if (gA σ 46 ((a1 + (1 : Int32)) + x3).toNatClampNeg) = x1 then gd (okI ((a1 + (11 : Int32)) + x3) 496) ((if (gA σ 46 ((a1 + (11 : Int32)) + x3).toNatClampNeg) = ((a2 + a3) - x1) then vl (x3 + (1 : Int32)) (fun x12 => some (.inl (x3, x12))) else vl (x3 + (1 : Int32)) (fun x11 => some (.inl (x2, x11))))) else vl (x3 + (1 : Int32)) (fun x8 => some (.inl (x2, x8)))))))
def f_X7_lineOf_J10 (σ : Sg) (a1 : Int32) (a2 : Int32) (a3 : Int32) (x1 : Int32) : Option (Int32) :=
  (wl (fun a => f_X7_lineOf_B19 σ a1 a2 a3 x1 a.1 a.2) FU ((-9 : Int32), (0 : Int32))).bind (fun t13 => some t13)
def f_X7_lineOf (σ : Sg) (a1 : Int32) (a2 : Int32) (a3 : Int32) : Option (Int32) :=
  (if a3 ≤ a2 then f_X7_lineOf_J10 σ a1 a2 a3 a3 else f_X7_lineOf_J10 σ a1 a2 a3 a2)
def f_X7_adds_B30 (a1 : Int32) (x1 : Int32) (x2 : Int32) (x5 : Int32) (σ6 : Sg) : Option ((Int32 × Sg) ⊕ (Int32 × Sg)) :=
  (if x5 ≤ 0 then some (.inr (x5, σ6)) else gd (okI (((a1 + (1 : Int32)) + x5) - (1 : Int32)) 496) (gd (okI (((a1 + (11 : Int32)) + x5) - (1 : Int32)) 496) ((if (((6 : Int32) * (gA σ6 46 (((a1 + (1 : Int32)) + x5) - (1 : Int32)).toNatClampNeg)) + (gA σ6 46 (((a1 + (11 : Int32)) + x5) - (1 : Int32)).toNatClampNeg)) ≤ (((6 : Int32) * x1) + x2) then some (.inr (x5, σ6)) else gd (okI (((a1 + (1 : Int32)) + x5) - (1 : Int32)) 496) (vl (gA σ6 46 (((a1 + (1 : Int32)) + x5) - (1 : Int32)).toNatClampNeg) (fun x12 => gd (okI ((a1 + (1 : Int32)) + x5) 496) (vl (pA σ6 46 ((a1 + (1 : Int32)) + x5).toNatClampNeg x12) (fun σ14 => gd (okI (((a1 + (11 : Int32)) + x5) - (1 : Int32)) 496) (vl (gA σ14 46 (((a1 + (11 : Int32)) + x5) - (1 : Int32)).toNatClampNeg) (fun x16 => gd (okI ((a1 + (11 : Int32)) + x5) 496) (vl (pA σ14 46 ((a1 + (11 : Int32)) + x5).toNatClampNeg x16) (fun σ18 => gd (okI (((a1 + (21 : Int32)) + x5) - (1 : Int32)) 496) (vl (gA σ18 46 (((a1 + (21 : Int32)) + x5) - (1 : Int32)).toNatClampNeg) (fun x20 => gd (okI ((a1 + (21 : Int32)) + x5) 496) (vl (pA σ18 46 ((a1 + (21 : Int32)) + x5).toNatClampNeg x20) (fun σ22 => vl (x5 + (-1 : Int32)) (fun x23 => some (.inl (x23, σ22)))))))))))))))))))
def f_X7_adds_J10 (σ : Sg) (a1 : Int32) (a2 : Int32) (a3 : Int32) (a4 : Int32) (x1 : Int32) : Option (Sg) :=
  vl ((a2 + a3) - x1) (fun x2 => gd (okI (a1 + (0 : Int32)) 496) (vl (gA σ 46 (a1 + (0 : Int32)).toNatClampNeg) (fun x4 => (wl (fun a => f_X7_adds_B30 a1 x1 x2 a.1 a.2) FU (x4, σ)).bind (fun t24 => gd (okI ((a1 + (1 : Int32)) + t24.1) 496) (vl (pA t24.2 46 ((a1 + (1 : Int32)) + t24.1).toNatClampNeg x1) (fun σ26 => gd (okI ((a1 + (11 : Int32)) + t24.1) 496) (vl (pA σ26 46 ((a1 + (11 : Int32)) + t24.1).toNatClampNeg x2) (fun σ28 => gd (okI ((a1 + (21 : Int32)) + t24.1) 496) (vl (pA σ28 46 ((a1 + (21 : Int32)) + t24.1).toNatClampNeg a4) (fun σ30 => gd (okI (a1 + (0 : Int32)) 496) (vl ((gA σ30 46 (a1 + (0 : Int32)).toNatClampNeg) + (1 : Int32)) (fun x32 => gd (okI (a1 + (0 : Int32)) 496) (vl (pA σ30 46 (a1 + (0 : Int32)).toNatClampNeg x32) (fun σ34 => some σ34))))))))))))))
def f_X7_adds (σ : Sg) (a1 : Int32) (a2 : Int32) (a3 : Int32) (a4 : Int32) : Option (Sg) :=
  (if a3 ≤ a2 then f_X7_adds_J10 σ a1 a2 a3 a4 a3 else f_X7_adds_J10 σ a1 a2 a3 a4 a2)
def f_X7_type (σ : Sg) (a1 : Int32) : Option (Int32 × Sg) :=
  (f_X7_in a1.toInt64 (0 : Int64) (255 : Int64)).bind (fun t1 => (if t1 = 0 then some ((-1 : Int32), σ) else (if (gI σ 19) = (80 : Int32) then some ((-3 : Int32), σ) else gd (okI (gI σ 19) 80) (vl (pA σ 48 (gI σ 19).toNatClampNeg a1) (fun σ5 => vl ((gI σ5 19) + (1 : Int32)) (fun x6 => vl (pI σ5 19 x6) (fun σ7 => some (gI σ7 19, σ7))))))))
def f_X7_clear (σ : Sg) : Option (Int32 × Sg) :=
  vl (gI σ 19) (fun x1 => vl (pI σ 19 (0 : Int32)) (fun σ2 => some (x1, σ2)))
def f_X7_next_B8 (σ3 : Sg) : Option ((Sg) ⊕ (Sg)) :=
  (if (gI σ3 19) ≤ (gI σ3 21) then some (.inr σ3) else gd (okI (gI σ3 21) 80) ((if (gA σ3 48 (gI σ3 21).toNatClampNeg) = (32 : Int32) then vl ((gI σ3 21) + (1 : Int32)) (fun x7 => vl (pI σ3 21 x7) (fun σ8 => some (.inl σ8))) else some (.inr σ3))))
def f_X7_next_B117 (σ22 : Sg) : Option ((Sg) ⊕ (Sg)) :=
  (if (gI σ22 19) ≤ (gI σ22 22) then some (.inr σ22) else gd (okI (gI σ22 22) 80) ((f_X7_in ((gA σ22 48 (gI σ22 22).toNatClampNeg).toInt64) (48 : Int64) (57 : Int64)).bind (fun t25 => (if t25 = 0 then some (.inr σ22) else vl ((gI σ22 22) + (1 : Int32)) (fun x27 => vl (pI σ22 22 x27) (fun σ28 => some (.inl σ28)))))))
def f_X7_next_J189 (t29 : Sg) (x30 : Int32) : Option (Sg) :=
  vl (pI t29 24 x30) (fun σ31 => vl (pI σ31 23 (48 : Int32)) (fun σ32 => some σ32))
def f_X7_next (σ : Sg) : Option (Sg) :=
  vl (gI σ 22) (fun x1 => vl (pI σ 21 x1) (fun σ2 => (wl (fun a => f_X7_next_B8 a) FU σ2).bind (fun t9 => vl (gI t9 21) (fun x10 => vl (pI t9 22 x10) (fun σ11 => vl (pI σ11 24 (-9 : Int32)) (fun σ12 => vl (pI σ12 23 (0 : Int32)) (fun σ13 => (if (gI σ13 21) = (gI σ13 19) then some σ13 else vl ((gI σ13 22) + (1 : Int32)) (fun x15 => vl (pI σ13 22 x15) (fun σ16 => gd (okI (gI σ16 21) 80) (vl (gA σ16 48 (gI σ16 21).toNatClampNeg) (fun x18 => vl (pI σ16 23 x18) (fun σ19 => (f_X7_in ((gI σ19 23).toInt64) (48 : Int64) (57 : Int64)).bind (fun t20 => (if t20 = 0 then some σ19 else (wl (fun a => f_X7_next_B117 a) FU σ19).bind (fun t29 => (if ((gI t29 22) - (gI t29 21)) = (1 : Int32) then f_X7_next_J189 t29 ((gI t29 23) - (48 : Int32)) else f_X7_next_J189 t29 (-9 : Int32))))))))))))))))))
def f_X7_isEnd (σ : Sg) : Option (Int32) :=
  (if (gI σ 21) = (gI σ 19) then some (1 : Int32) else some (0 : Int32))
def f_X7_reads (σ : Sg) (a1 : Int32) (a2 : Int32) (a3 : Int32) : Option (Int32 × Sg) :=
  (f_X7_next σ).bind (fun t1 => vl (gI t1 24) (fun x2 => gd (okI a1 3) (vl (pA t1 50 a1.toNatClampNeg x2) (fun σ4 => (f_X7_isEnd σ4).bind (fun t5 => (if t5 = 0 then (if (gI σ4 23) = (48 : Int32) then (f_X7_in ((gI σ4 24).toInt64) a2.toInt64 a3.toInt64).bind (fun t8 => (if t8 = 0 then some ((0 : Int32), σ4) else some ((1 : Int32), σ4))) else some ((0 : Int32), σ4)) else some ((0 : Int32), σ4)))))))
def f_X7_isItem_J170 (σ1 : Sg) : Option (Int32 × Sg) :=
  (f_X7_next σ1).bind (fun t2 => (f_X7_isEnd t2).bind (fun t3 => (if t3 = 0 then (if (gI t2 23) = (59 : Int32) then some ((1 : Int32), t2) else some ((0 : Int32), t2)) else some ((0 : Int32), t2))))
def f_X7_isItem (σ : Sg) (a1 : Int32) : Option (Int32 × Sg) :=
  (if (gI σ 23) = (110 : Int32) then (if 0 < a1 then some ((0 : Int32), σ) else (f_X7_reads σ (0 : Int32) (2 : Int32) (6 : Int32)).bind (fun t28 => (if t28.1 = 0 then some ((0 : Int32), t28.2) else gd (okI (0 : Int32) 3) (vl (gA t28.2 50 (0 : Int32).toNatClampNeg) (fun x31 => vl (pI t28.2 25 x31) (fun σ32 => f_X7_isItem_J170 σ32)))))) else (if (gI σ 23) = (101 : Int32) then gd (okI (465 : Int32) 496) ((if (gA σ 46 (465 : Int32).toNatClampNeg) = (10 : Int32) then some ((0 : Int32), σ) else (f_X7_reads σ (0 : Int32) (0 : Int32) ((gI σ 25) - (1 : Int32))).bind (fun t10 => (if t10.1 = 0 then some ((0 : Int32), t10.2) else (f_X7_reads t10.2 (1 : Int32) (0 : Int32) ((gI t10.2 25) - (1 : Int32))).bind (fun t12 => (if t12.1 = 0 then some ((0 : Int32), t12.2) else gd (okI (0 : Int32) 3) (gd (okI (1 : Int32) 3) ((if (gA t12.2 50 (0 : Int32).toNatClampNeg) = (gA t12.2 50 (1 : Int32).toNatClampNeg) then some ((0 : Int32), t12.2) else gd (okI (0 : Int32) 3) (gd (okI (1 : Int32) 3) ((f_X7_lineOf t12.2 (465 : Int32) (gA t12.2 50 (0 : Int32).toNatClampNeg) (gA t12.2 50 (1 : Int32).toNatClampNeg)).bind (fun t19 => (if t19 = (-9 : Int32) then (f_X7_reads t12.2 (2 : Int32) (1 : Int32) (9 : Int32)).bind (fun t21 => (if t21.1 = 0 then some ((0 : Int32), t21.2) else gd (okI (0 : Int32) 3) (gd (okI (1 : Int32) 3) (gd (okI (2 : Int32) 3) ((f_X7_adds t21.2 (465 : Int32) (gA t21.2 50 (0 : Int32).toNatClampNeg) (gA t21.2 50 (1 : Int32).toNatClampNeg) (gA t21.2 50 (2 : Int32).toNatClampNeg)).bind (fun t26 => f_X7_isItem_J170 t26)))))) else some ((0 : Int32), t12.2)))))))))))))) else some ((0 : Int32), σ)))
def f_X7_net_B25 (x6 : Int32) (σ7 : Sg) : Option ((Int32 × Sg) ⊕ ((Int32 × Sg) ⊕ (Int32 × Sg))) :=
  (f_X7_isEnd σ7).bind (fun t8 => (if t8 = 0 then (f_X7_isItem σ7 x6).bind (fun t10 => (if t10.1 = 0 then some (.inr (.inr ((-10 : Int32) - (gI t10.2 21), t10.2))) else vl (x6 + (1 : Int32)) (fun x12 => (f_X7_next t10.2).bind (fun t13 => some (.inl (x12, t13)))))) else some (.inr (.inl (x6, σ7)))))
def f_X7_net (σ : Sg) : Option (Int32 × Sg) :=
  vl (pI σ 22 (0 : Int32)) (fun σ1 => vl (pI σ1 25 (2 : Int32)) (fun σ2 => gd (okI (465 : Int32) 496) (vl (pA σ2 46 (465 : Int32).toNatClampNeg (0 : Int32)) (fun σ4 => (f_X7_next σ4).bind (fun t5 => (wl (fun a => f_X7_net_B25 a.1 a.2) FU ((0 : Int32), t5)).bind (Sum.elim (fun t14 => (f_X7_copyRow t14.2 (465 : Int32) (0 : Int32)).bind (fun t15 => vl (gI t15 25) (fun x16 => vl (pI t15 17 x16) (fun σ17 => vl (pI σ17 19 (0 : Int32)) (fun σ18 => vl (pI σ18 18 (0 : Int32)) (fun σ19 => vl (pI σ19 20 (0 : Int32)) (fun σ20 => gd (okI (0 : Int32) 2) (vl (pA σ20 47 (0 : Int32).toNatClampNeg (0 : Int32)) (fun σ22 => gd (okI (1 : Int32) 2) (vl (pA σ22 47 (1 : Int32).toNatClampNeg (0 : Int32)) (fun σ24 => some (t14.1, σ24)))))))))))) (fun v => some v)))))))
def f_X7_isNode (σ : Sg) (a1 : Int32) : Option (Int32) :=
  (f_X7_in a1.toInt64 (0 : Int64) (((gI σ 17) - (1 : Int32)).toInt64)).bind (fun t1 => gd (okZ t1) (some t1))
def f_X7_isLine (σ : Sg) (a1 : Int32) : Option (Int32) :=
  (f_X7_lines σ).bind (fun t1 => (f_X7_in a1.toInt64 (0 : Int64) ((t1 - (1 : Int32)).toInt64)).bind (fun t2 => gd (okZ t2) (some t2)))
def f_X7_line (σ : Sg) (a1 : Int32) (a2 : Int32) : Option (Int32) :=
  (f_X7_isLine σ a1).bind (fun t1 => (if t1 = 0 then some (-1 : Int32) else (f_X7_in a2.toInt64 (0 : Int64) (2 : Int64)).bind (fun t3 => (if t3 = 0 then some (-1 : Int32) else (if a2 = 0 then gd (okI ((1 : Int32) + a1) 496) (some (gA σ 46 ((1 : Int32) + a1).toNatClampNeg)) else (if a2 = (1 : Int32) then gd (okI ((11 : Int32) + a1) 496) (some (gA σ 46 ((11 : Int32) + a1).toNatClampNeg)) else gd (okI ((21 : Int32) + a1) 496) (some (gA σ 46 ((21 : Int32) + a1).toNatClampNeg))))))))
def f_X7_degree_J61 (x1 : Int32) (x2 : Int32) : Option ((Int32 × Int32) ⊕ (Int32)) :=
  vl (x1 + (0 : Int32)) (fun x5 => vl (x2 + (1 : Int32)) (fun x6 => some (.inl (x5, x6))))
def f_X7_degree_J48 (σ : Sg) (x1 : Int32) (x2 : Int32) : Option ((Int32 × Int32) ⊕ (Int32)) :=
  gd (okI ((21 : Int32) + x2) 496) (vl (x1 + (gA σ 46 ((21 : Int32) + x2).toNatClampNeg)) (fun x10 => vl (x2 + (1 : Int32)) (fun x11 => some (.inl (x10, x11)))))
def f_X7_degree_B5 (σ : Sg) (a1 : Int32) (a2 : Int32) (x1 : Int32) (x2 : Int32) : Option ((Int32 × Int32) ⊕ (Int32)) :=
  (f_X7_lines σ).bind (fun t3 => (if t3 ≤ x2 then some (.inr x1) else (if x2 = a2 then f_X7_degree_J61 x1 x2 else gd (okI ((1 : Int32) + x2) 496) ((if (gA σ 46 ((1 : Int32) + x2).toNatClampNeg) = a1 then f_X7_degree_J48 σ x1 x2 else gd (okI ((11 : Int32) + x2) 496) ((if (gA σ 46 ((11 : Int32) + x2).toNatClampNeg) = a1 then f_X7_degree_J48 σ x1 x2 else f_X7_degree_J61 x1 x2)))))))
def f_X7_degree (σ : Sg) (a1 : Int32) (a2 : Int32) : Option (Int32) :=
  (wl (fun a => f_X7_degree_B5 σ a1 a2 a.1 a.2) FU ((0 : Int32), (0 : Int32))).bind (fun t15 => some t15)
def f_X7_whole_B4 (σ : Sg) (x1 : Int32) (x2 : Int32) : Option ((Int32 × Int32) ⊕ (Int32)) :=
  (f_X7_lines σ).bind (fun t3 => (if t3 ≤ x2 then some (.inr x1) else gd (okI ((21 : Int32) + x2) 496) (vl (x1 + (gA σ 46 ((21 : Int32) + x2).toNatClampNeg)) (fun x6 => vl (x2 + (1 : Int32)) (fun x7 => some (.inl (x6, x7)))))))
def f_X7_whole (σ : Sg) : Option (Int32) :=
  (wl (fun a => f_X7_whole_B4 σ a.1 a.2) FU ((0 : Int32), (0 : Int32))).bind (fun t8 => some t8)
def f_X7_width (σ : Sg) (a1 : Int32) (a2 : Int32) : Option (Int32) :=
  (f_X7_isNode σ a1).bind (fun t1 => (if t1 = 0 then some (-1 : Int32) else (f_X7_isNode σ a2).bind (fun t3 => (if t3 = 0 then some (-1 : Int32) else (if a1 = a2 then (f_X7_degree σ a1 (-9 : Int32)).bind (fun t9 => some t9) else (f_X7_lineOf σ (0 : Int32) a1 a2).bind (fun t6 => (if t6 = (-9 : Int32) then some (0 : Int32) else gd (okI ((21 : Int32) + t6) 496) (some (gA σ 46 ((21 : Int32) + t6).toNatClampNeg)))))))))
def f_X7_notes_B2 (x1 : Int32) (σ2 : Sg) : Option ((Int32 × Sg) ⊕ (Sg)) :=
  (if (341 : Int32) ≤ x1 then some (.inr σ2) else (if (gI σ2 18) = (12 : Int32) then gd (okI ((62 : Int32) + x1) 496) (vl (gA σ2 46 ((62 : Int32) + x1).toNatClampNeg) (fun x6 => gd (okI ((31 : Int32) + x1) 496) (vl (pA σ2 46 ((31 : Int32) + x1).toNatClampNeg x6) (fun σ8 => vl (x1 + (1 : Int32)) (fun x9 => some (.inl (x9, σ8))))))) else some (.inr σ2)))
def f_X7_notes_J61 (t10 : Sg) (x11 : Int32) : Option (Sg) :=
  vl ((gI t10 18) - x11) (fun x12 => vl (pI t10 18 x12) (fun σ13 => (f_X7_copyRow σ13 (0 : Int32) ((31 : Int32) + ((31 : Int32) * (gI σ13 18)))).bind (fun t14 => vl ((gI t14 18) + (1 : Int32)) (fun x15 => vl (pI t14 18 x15) (fun σ16 => some σ16)))))
def f_X7_notes (σ : Sg) : Option (Sg) :=
  (wl (fun a => f_X7_notes_B2 a.1 a.2) FU ((0 : Int32), σ)).bind (fun t10 => (if (gI t10 18) = (12 : Int32) then f_X7_notes_J61 t10 (1 : Int32) else f_X7_notes_J61 t10 (0 : Int32)))
def f_X7_lays (σ : Sg) (a1 : Int32) (a2 : Int32) (a3 : Int32) : Option (Int32 × Sg) :=
  (f_X7_isNode σ a1).bind (fun t1 => (if t1 = 0 then some ((-1 : Int32), σ) else (f_X7_isNode σ a2).bind (fun t3 => (if t3 = 0 then some ((-1 : Int32), σ) else (if a1 = a2 then some ((-1 : Int32), σ) else (f_X7_in a3.toInt64 (1 : Int64) (9 : Int64)).bind (fun t6 => (if t6 = 0 then some ((-1 : Int32), σ) else (f_X7_lineOf σ (0 : Int32) a1 a2).bind (fun t8 => (if t8 = (-9 : Int32) then (f_X7_lines σ).bind (fun t10 => (if t10 = (10 : Int32) then some ((-3 : Int32), σ) else (f_X7_notes σ).bind (fun t12 => (f_X7_adds t12 (0 : Int32) a1 a2 a3).bind (fun t13 => (f_X7_lines t13).bind (fun t14 => some (t14, t13)))))) else some ((-2 : Int32), σ))))))))))
def f_X7_widens (σ : Sg) (a1 : Int32) (a2 : Int32) : Option (Int32 × Sg) :=
  (f_X7_isLine σ a1).bind (fun t1 => (if t1 = 0 then some ((-1 : Int32), σ) else (f_X7_in a2.toInt64 (1 : Int64) (9 : Int64)).bind (fun t3 => (if t3 = 0 then some ((-1 : Int32), σ) else gd (okI ((21 : Int32) + a1) 496) (vl (gA σ 46 ((21 : Int32) + a1).toNatClampNeg) (fun x6 => (if x6 = a2 then some ((-2 : Int32), σ) else (f_X7_notes σ).bind (fun t8 => gd (okI ((21 : Int32) + a1) 496) (vl (pA t8 46 ((21 : Int32) + a1).toNatClampNeg a2) (fun σ10 => some (x6, σ10)))))))))))
def f_X7_cuts_B26 (x8 : Int32) (σ9 : Sg) : Option ((Int32 × Sg) ⊕ (Sg)) :=
  (f_X7_lines σ9).bind (fun t10 => (if t10 ≤ x8 then some (.inr σ9) else gd (okI (((1 : Int32) + x8) + (1 : Int32)) 496) (vl (gA σ9 46 (((1 : Int32) + x8) + (1 : Int32)).toNatClampNeg) (fun x13 => gd (okI ((1 : Int32) + x8) 496) (vl (pA σ9 46 ((1 : Int32) + x8).toNatClampNeg x13) (fun σ15 => gd (okI (((11 : Int32) + x8) + (1 : Int32)) 496) (vl (gA σ15 46 (((11 : Int32) + x8) + (1 : Int32)).toNatClampNeg) (fun x17 => gd (okI ((11 : Int32) + x8) 496) (vl (pA σ15 46 ((11 : Int32) + x8).toNatClampNeg x17) (fun σ19 => gd (okI (((21 : Int32) + x8) + (1 : Int32)) 496) (vl (gA σ19 46 (((21 : Int32) + x8) + (1 : Int32)).toNatClampNeg) (fun x21 => gd (okI ((21 : Int32) + x8) 496) (vl (pA σ19 46 ((21 : Int32) + x8).toNatClampNeg x21) (fun σ23 => vl (x8 + (1 : Int32)) (fun x24 => some (.inl (x24, σ23)))))))))))))))))
def f_X7_cuts (σ : Sg) (a1 : Int32) : Option (Int32 × Sg) :=
  (f_X7_isLine σ a1).bind (fun t1 => (if t1 = 0 then some ((-1 : Int32), σ) else (f_X7_notes σ).bind (fun t3 => gd (okI (0 : Int32) 496) (vl ((gA t3 46 (0 : Int32).toNatClampNeg) - (1 : Int32)) (fun x5 => gd (okI (0 : Int32) 496) (vl (pA t3 46 (0 : Int32).toNatClampNeg x5) (fun σ7 => (wl (fun a => f_X7_cuts_B26 a.1 a.2) FU (a1, σ7)).bind (fun t25 => (f_X7_lines t25).bind (fun t26 => some (t26, t25))))))))))
def f_X7_undo (σ : Sg) : Option (Int32 × Sg) :=
  (if (gI σ 18) = 0 then some ((-2 : Int32), σ) else vl ((gI σ 18) - (1 : Int32)) (fun x2 => vl (pI σ 18 x2) (fun σ3 => (f_X7_copyRow σ3 ((31 : Int32) + ((31 : Int32) * (gI σ3 18))) (0 : Int32)).bind (fun t4 => some (gI t4 18, t4)))))
def f_X7_ones_B4 (a1 : Int32) (x1 : Int32) (x2 : Int32) : Option ((Int32 × Int32) ⊕ (Int32)) :=
  (if (10 : Int32) ≤ x2 then some (.inr x1) else vl (x1 + ((a1 >>> (x2 &&& 31)) &&& (1 : Int32))) (fun x4 => vl (x2 + (1 : Int32)) (fun x5 => some (.inl (x4, x5)))))
def f_X7_ones (a1 : Int32) : Option (Int32) :=
  (wl (fun a => f_X7_ones_B4 a1 a.1 a.2) FU ((0 : Int32), (0 : Int32))).bind (fun t6 => some t6)
def f_X7_parts_B4 (x1 : Int32) (σ2 : Sg) : Option ((Int32 × Sg) ⊕ (Sg)) :=
  (if (6 : Int32) ≤ x1 then some (.inr σ2) else gd (okI x1 6) (vl (pA σ2 51 x1.toNatClampNeg x1) (fun σ5 => vl (x1 + (1 : Int32)) (fun x6 => some (.inl (x6, σ5))))))
def f_X7_parts_B93 (x17 : Int32) (x20 : Int32) (x22 : Int32) (σ23 : Sg) : Option ((Int32 × Sg) ⊕ (Sg)) :=
  (if (6 : Int32) ≤ x22 then some (.inr σ23) else gd (okI x22 6) ((if (gA σ23 51 x22.toNatClampNeg) = x20 then gd (okI x22 6) (vl (pA σ23 51 x22.toNatClampNeg x17) (fun σ33 => vl (x22 + (1 : Int32)) (fun x34 => some (.inl (x34, σ33))))) else gd (okI x22 6) (vl (gA σ23 51 x22.toNatClampNeg) (fun x28 => gd (okI x22 6) (vl (pA σ23 51 x22.toNatClampNeg x28) (fun σ30 => vl (x22 + (1 : Int32)) (fun x31 => some (.inl (x31, σ30))))))))))
def f_X7_parts_J89 (x9 : Int32) (σ10 : Sg) (x17 : Int32) (x20 : Int32) (x21 : Int32) : Option ((Int32 × Int32 × Sg) ⊕ (Int32 × Sg)) :=
  (wl (fun a => f_X7_parts_B93 x17 x20 a.1 a.2) FU ((0 : Int32), σ10)).bind (fun t35 => vl (x9 + (1 : Int32)) (fun x36 => some (.inl (x21, x36, t35))))
def f_X7_parts_J88 (x9 : Int32) (σ10 : Sg) (x17 : Int32) (x20 : Int32) : Option ((Int32 × Int32 × Sg) ⊕ (Int32 × Sg)) :=
  f_X7_parts_J89 x9 σ10 x17 x20 (0 : Int32)
def f_X7_parts_B25 (a1 : Int32) (x8 : Int32) (x9 : Int32) (σ10 : Sg) : Option ((Int32 × Int32 × Sg) ⊕ (Int32 × Sg)) :=
  (f_X7_lines σ10).bind (fun t11 => (if t11 ≤ x9 then some (.inr (x8, σ10)) else (if ((a1 >>> (x9 &&& 31)) &&& (1 : Int32)) = (1 : Int32) then gd (okI ((1 : Int32) + x9) 496) (gd (okI (gA σ10 46 ((1 : Int32) + x9).toNatClampNeg) 6) (vl (gA σ10 51 (gA σ10 46 ((1 : Int32) + x9).toNatClampNeg).toNatClampNeg) (fun x17 => gd (okI ((11 : Int32) + x9) 496) (gd (okI (gA σ10 46 ((11 : Int32) + x9).toNatClampNeg) 6) (vl (gA σ10 51 (gA σ10 46 ((11 : Int32) + x9).toNatClampNeg).toNatClampNeg) (fun x20 => (if x8 = 0 then f_X7_parts_J88 x9 σ10 x17 x20 else (if x17 = x20 then f_X7_parts_J88 x9 σ10 x17 x20 else f_X7_parts_J89 x9 σ10 x17 x20 (1 : Int32))))))))) else vl (x9 + (1 : Int32)) (fun x14 => some (.inl (x8, x14, σ10))))))
def f_X7_parts (σ : Sg) (a1 : Int32) : Option (Int32 × Sg) :=
  (wl (fun a => f_X7_parts_B4 a.1 a.2) FU ((0 : Int32), σ)).bind (fun t7 => (wl (fun a => f_X7_parts_B25 a1 a.1 a.2.1 a.2.2) FU ((1 : Int32), (0 : Int32), t7)).bind (fun t39 => gd (okZ t39.1) (some (t39.1, t39.2))))
def f_X7_isTogether_B4 (σ : Sg) (x1 : Int32) (x2 : Int32) : Option ((Int32 × Int32) ⊕ (Int32)) :=
  (if (gI σ 17) ≤ x2 then some (.inr x1) else (if x1 = 0 then vl (x2 + (1 : Int32)) (fun x5 => some (.inl ((0 : Int32), x5))) else gd (okI x2 6) (gd (okI (0 : Int32) 6) ((if (gA σ 51 x2.toNatClampNeg) = (gA σ 51 (0 : Int32).toNatClampNeg) then vl (x2 + (1 : Int32)) (fun x10 => some (.inl ((1 : Int32), x10))) else vl (x2 + (1 : Int32)) (fun x9 => some (.inl ((0 : Int32), x9))))))))
def f_X7_isTogether (σ : Sg) : Option (Int32) :=
  (wl (fun a => f_X7_isTogether_B4 σ a.1 a.2) FU ((1 : Int32), (1 : Int32))).bind (fun t11 => gd (okZ t11) (some t11))
def f_X7_hangs_J27 (σ : Sg) (x3 : Int32) : Option (Int32 × Sg) :=
  (f_X7_parts σ x3).bind (fun t4 => (f_X7_isTogether t4.2).bind (fun t5 => gd (okZ t5) (some (t5, t4.2))))
def f_X7_hangs (σ : Sg) (a1 : Int32) : Option (Int32 × Sg) :=
  (f_X7_lines σ).bind (fun t1 => vl (((1 : Int32) <<< (t1 &&& 31)) - (1 : Int32)) (fun x2 => (if a1 = (-9 : Int32) then f_X7_hangs_J27 σ x2 else f_X7_hangs_J27 σ (x2 &&& (((1 : Int32) <<< (a1 &&& 31)) ^^^ (-1 : Int32))))))
def f_X7_weight_B5 (σ : Sg) (a1 : Int32) (x1 : Int64) (x2 : Int32) : Option ((Int64 × Int32) ⊕ (Int64)) :=
  (f_X7_lines σ).bind (fun t3 => (if t3 ≤ x2 then some (.inr x1) else (if ((a1 >>> (x2 &&& 31)) &&& (1 : Int32)) = (1 : Int32) then gd (okI ((21 : Int32) + x2) 496) (vl (x1 * ((gA σ 46 ((21 : Int32) + x2).toNatClampNeg).toInt64)) (fun x9 => vl (x2 + (1 : Int32)) (fun x10 => some (.inl (x9, x10))))) else vl (x1 * (1 : Int64)) (fun x6 => vl (x2 + (1 : Int32)) (fun x7 => some (.inl (x6, x7)))))))
def f_X7_weight (σ : Sg) (a1 : Int32) : Option (Int64) :=
  (wl (fun a => f_X7_weight_B5 σ a1 a.1 a.2) FU ((1 : Int64), (0 : Int32))).bind (fun t11 => some t11)
def f_X7_isForest_J27 (σ : Sg) (a1 : Int32) : Option (Int32 × Sg) :=
  (f_X7_parts σ a1).bind (fun t3 => (if t3.1 = 0 then some ((0 : Int32), t3.2) else some ((1 : Int32), t3.2)))
def f_X7_isForest (σ : Sg) (a1 : Int32) (a2 : Int32) (a3 : Int32) : Option (Int32 × Sg) :=
  (f_X7_ones a1).bind (fun t1 => (if t1 = ((gI σ 17) - a2) then (if a3 = (-9 : Int32) then f_X7_isForest_J27 σ a1 else (if ((a1 >>> (a3 &&& 31)) &&& (1 : Int32)) = 0 then f_X7_isForest_J27 σ a1 else some ((0 : Int32), σ))) else some ((0 : Int32), σ)))
def f_X7_treesBut_B5 (a1 : Int32) (x1 : Int64) (x2 : Int32) (σ3 : Sg) : Option ((Int64 × Int32 × Sg) ⊕ (Int64 × Sg)) :=
  (f_X7_lines σ3).bind (fun t4 => (if ((1 : Int32) <<< (t4 &&& 31)) ≤ x2 then some (.inr (x1, σ3)) else (f_X7_isForest σ3 x2 (1 : Int32) a1).bind (fun t6 => (if t6.1 = 0 then vl (x1 + (0 : Int64)) (fun x8 => vl (x2 + (1 : Int32)) (fun x9 => some (.inl (x8, x9, t6.2)))) else (f_X7_weight t6.2 x2).bind (fun t10 => vl (x1 + t10) (fun x11 => vl (x2 + (1 : Int32)) (fun x12 => some (.inl (x11, x12, t6.2)))))))))
def f_X7_treesBut (σ : Sg) (a1 : Int32) : Option (Int64 × Sg) :=
  (wl (fun a => f_X7_treesBut_B5 a1 a.1 a.2.1 a.2.2) FU ((0 : Int64), (0 : Int32), σ)).bind (fun t13 => some (t13.1, t13.2))
def f_X7_steps_B49 (a1 : Int32) (a3 : Int32) (t6 : Int32 × Sg) (x13 : Int64) (x14 : Int32) : Option ((Int64 × Int32) ⊕ (Int64)) :=
  (if (gI t6.2 17) ≤ x14 then some (.inr x13) else gd (okI x14 6) (gd (okI a1 6) ((if (gA t6.2 51 x14.toNatClampNeg) = (gA t6.2 51 a1.toNatClampNeg) then (f_X7_degree t6.2 x14 a3).bind (fun t21 => vl (x13 + t21.toInt64) (fun x22 => vl (x14 + (1 : Int32)) (fun x23 => some (.inl (x22, x23))))) else vl (x13 + (0 : Int64)) (fun x19 => vl (x14 + (1 : Int32)) (fun x20 => some (.inl (x19, x20))))))))
def f_X7_steps_B6 (a1 : Int32) (a2 : Int32) (a3 : Int32) (x1 : Int64) (x2 : Int32) (σ3 : Sg) : Option ((Int64 × Int32 × Sg) ⊕ (Int64 × Sg)) :=
  (f_X7_lines σ3).bind (fun t4 => (if ((1 : Int32) <<< (t4 &&& 31)) ≤ x2 then some (.inr (x1, σ3)) else (f_X7_isForest σ3 x2 (2 : Int32) a3).bind (fun t6 => (if t6.1 = 0 then vl (x2 + (1 : Int32)) (fun x8 => some (.inl (x1, x8, t6.2))) else gd (okI a1 6) (gd (okI a2 6) ((if (gA t6.2 51 a1.toNatClampNeg) = (gA t6.2 51 a2.toNatClampNeg) then vl (x2 + (1 : Int32)) (fun x12 => some (.inl (x1, x12, t6.2))) else (wl (fun a => f_X7_steps_B49 a1 a3 t6 a.1 a.2) FU ((0 : Int64), (0 : Int32))).bind (fun t24 => (f_X7_weight t6.2 x2).bind (fun t25 => vl (x1 + (t24 * t25)) (fun x26 => vl (x2 + (1 : Int32)) (fun x27 => some (.inl (x26, x27, t6.2)))))))))))))
def f_X7_steps (σ : Sg) (a1 : Int32) (a2 : Int32) (a3 : Int32) : Option (Int64 × Sg) :=
  (wl (fun a => f_X7_steps_B6 a1 a2 a3 a.1 a.2.1 a.2.2) FU ((0 : Int64), (0 : Int32), σ)).bind (fun t28 => some (t28.1, t28.2))
def f_X7_apart_J86 (x1 : Int64) (x2 : Int32) (t6 : Int32 × Sg) : Option ((Int64 × Int32 × Sg) ⊕ (Int64 × Sg)) :=
  vl (x1 + (0 : Int64)) (fun x8 => vl (x2 + (1 : Int32)) (fun x9 => some (.inl (x8, x9, t6.2))))
def f_X7_apart_J77 (x1 : Int64) (x2 : Int32) (t6 : Int32 × Sg) : Option ((Int64 × Int32 × Sg) ⊕ (Int64 × Sg)) :=
  (f_X7_weight t6.2 x2).bind (fun t11 => vl (x1 + t11) (fun x12 => vl (x2 + (1 : Int32)) (fun x13 => some (.inl (x12, x13, t6.2)))))
def f_X7_apart_J49 (a1 : Int32) (a2 : Int32) (x1 : Int64) (x2 : Int32) (t6 : Int32 × Sg) (x7 : Int32) : Option ((Int64 × Int32 × Sg) ⊕ (Int64 × Sg)) :=
  (if x7 = 0 then f_X7_apart_J86 x1 x2 t6 else (if a1 < 0 then f_X7_apart_J77 x1 x2 t6 else gd (okI a1 6) (gd (okI a2 6) ((if (gA t6.2 51 a1.toNatClampNeg) = (gA t6.2 51 a2.toNatClampNeg) then f_X7_apart_J77 x1 x2 t6 else f_X7_apart_J86 x1 x2 t6)))))
def f_X7_apart_J48 (a1 : Int32) (a2 : Int32) (x1 : Int64) (x2 : Int32) (t6 : Int32 × Sg) : Option ((Int64 × Int32 × Sg) ⊕ (Int64 × Sg)) :=
  f_X7_apart_J49 a1 a2 x1 x2 t6 (0 : Int32)
def f_X7_apart_B6 (a1 : Int32) (a2 : Int32) (a3 : Int32) (x1 : Int64) (x2 : Int32) (σ3 : Sg) : Option ((Int64 × Int32 × Sg) ⊕ (Int64 × Sg)) :=
  (f_X7_lines σ3).bind (fun t4 => (if ((1 : Int32) <<< (t4 &&& 31)) ≤ x2 then some (.inr (x1, σ3)) else (f_X7_isForest σ3 x2 (2 : Int32) (-9 : Int32)).bind (fun t6 => (if t6.1 = 0 then f_X7_apart_J48 a1 a2 x1 x2 t6 else gd (okI a2 6) (gd (okI a3 6) ((if (gA t6.2 51 a2.toNatClampNeg) = (gA t6.2 51 a3.toNatClampNeg) then f_X7_apart_J48 a1 a2 x1 x2 t6 else f_X7_apart_J49 a1 a2 x1 x2 t6 (1 : Int32))))))))
def f_X7_apart (σ : Sg) (a1 : Int32) (a2 : Int32) (a3 : Int32) : Option (Int64 × Sg) :=
  (wl (fun a => f_X7_apart_B6 a1 a2 a3 a.1 a.2.1 a.2.2) FU ((0 : Int64), (0 : Int32), σ)).bind (fun t22 => some (t22.1, t22.2))
def f_X7_common_B6 (x1 : Int64) (x2 : Int64) : Option ((Int64 × Int64) ⊕ (Int64)) :=
  (if x2 = (0 : Int64) then some (.inr x1) else gd (decide (¬ x2 = 0)) (vl (x1 - x1 / x2 * x2) (fun x5 => some (.inl (x2, x5)))))
def f_X7_common (a1 : Int64) (a2 : Int64) : Option (Int64) :=
  (wl (fun a => f_X7_common_B6 a.1 a.2) FU (a1, a2)).bind (fun t6 => some t6)
def f_X7_least_J10 (a1 : Int64) (a2 : Int64) (x1 : Int64) : Option (Int64) :=
  (f_X7_common a1 a2).bind (fun t2 => gd (decide (¬ t2 = 0)) (some (x1 / t2)))
def f_X7_least (a1 : Int64) (a2 : Int64) (a3 : Int32) : Option (Int64) :=
  (if a3 = 0 then f_X7_least_J10 a1 a2 a1 else f_X7_least_J10 a1 a2 a2)
def f_X7_hitting (σ : Sg) (a1 : Int32) (a2 : Int32) (a3 : Int32) : Option (Int64 × Sg) :=
  (f_X7_isNode σ a1).bind (fun t1 => (if t1 = 0 then some ((-1 : Int64), σ) else (f_X7_isNode σ a2).bind (fun t3 => (if t3 = 0 then some ((-1 : Int64), σ) else (f_X7_in a3.toInt64 (0 : Int64) (1 : Int64)).bind (fun t5 => (if t5 = 0 then some ((-1 : Int64), σ) else (f_X7_hangs σ (-9 : Int32)).bind (fun t7 => (if t7.1 = 0 then some ((-2 : Int64), t7.2) else (f_X7_steps t7.2 a1 a2 (-9 : Int32)).bind (fun t9 => (f_X7_treesBut t9.2 (-9 : Int32)).bind (fun t10 => (f_X7_least t9.1 t10.1 a3).bind (fun t11 => some (t11, t10.2))))))))))))
def f_X7_between_J102 (a4 : Int32) (x13 : Int64) (t14 : Int64 × Sg) (x15 : Int64) : Option (Int64 × Sg) :=
  (f_X7_least x13 x15 a4).bind (fun t16 => some (t16, t14.2))
def f_X7_between (σ : Sg) (a1 : Int32) (a2 : Int32) (a3 : Int32) (a4 : Int32) : Option (Int64 × Sg) :=
  (f_X7_isNode σ a1).bind (fun t1 => (if t1 = 0 then some ((-1 : Int64), σ) else (f_X7_isNode σ a2).bind (fun t3 => (if t3 = 0 then some ((-1 : Int64), σ) else (f_X7_in a3.toInt64 (0 : Int64) (1 : Int64)).bind (fun t5 => (if t5 = 0 then some ((-1 : Int64), σ) else (f_X7_in a4.toInt64 (0 : Int64) (1 : Int64)).bind (fun t7 => (if t7 = 0 then some ((-1 : Int64), σ) else (f_X7_hangs σ (-9 : Int32)).bind (fun t9 => (if t9.1 = 0 then some ((-2 : Int64), t9.2) else (f_X7_steps t9.2 a1 a2 (-9 : Int32)).bind (fun t11 => (f_X7_steps t11.2 a2 a1 (-9 : Int32)).bind (fun t12 => vl (t11.1 + t12.1) (fun x13 => (f_X7_treesBut t12.2 (-9 : Int32)).bind (fun t14 => (if a3 = 0 then f_X7_between_J102 a4 x13 t14 t14.1 else (f_X7_whole t14.2).bind (fun t18 => f_X7_between_J102 a4 x13 t14 ((((2 : Int32) * t18).toInt64) * t14.1)))))))))))))))))
def f_X7_ahead (σ : Sg) (a1 : Int32) (a2 : Int32) (a3 : Int32) (a4 : Int32) : Option (Int64 × Sg) :=
  (f_X7_isNode σ a1).bind (fun t1 => (if t1 = 0 then some ((-1 : Int64), σ) else (f_X7_isNode σ a2).bind (fun t3 => (if t3 = 0 then some ((-1 : Int64), σ) else (f_X7_isNode σ a3).bind (fun t5 => (if t5 = 0 then some ((-1 : Int64), σ) else (if a2 = a3 then some ((-1 : Int64), σ) else (f_X7_in a4.toInt64 (0 : Int64) (1 : Int64)).bind (fun t8 => (if t8 = 0 then some ((-1 : Int64), σ) else (f_X7_hangs σ (-9 : Int32)).bind (fun t10 => (if t10.1 = 0 then some ((-2 : Int64), t10.2) else (f_X7_apart t10.2 a1 a2 a3).bind (fun t12 => (f_X7_apart t12.2 (-9 : Int32) a2 a3).bind (fun t13 => (f_X7_least t12.1 t13.1 a4).bind (fun t14 => some (t14, t13.2)))))))))))))))
def f_X7_within_B3 (a2 : Int32) (x1 : Int32) (σ2 : Sg) : Option ((Int32 × Sg) ⊕ (Sg)) :=
  (if (6 : Int32) ≤ x1 then some (.inr σ2) else (if x1 = a2 then gd (okI x1 6) (vl (pJ σ2 52 x1.toNatClampNeg (1 : Int64)) (fun σ9 => vl (x1 + (1 : Int32)) (fun x10 => some (.inl (x10, σ9))))) else gd (okI x1 6) (vl (pJ σ2 52 x1.toNatClampNeg (0 : Int64)) (fun σ6 => vl (x1 + (1 : Int32)) (fun x7 => some (.inl (x7, σ6)))))))
def f_X7_within_B46 (x15 : Int32) (σ16 : Sg) : Option ((Int32 × Sg) ⊕ (Sg)) :=
  (if (6 : Int32) ≤ x15 then some (.inr σ16) else gd (okI x15 6) (vl (pJ σ16 53 x15.toNatClampNeg (0 : Int64)) (fun σ19 => vl (x15 + (1 : Int32)) (fun x20 => some (.inl (x20, σ19))))))
def f_X7_within_B70 (a1 : Int32) (x22 : Int32) (σ23 : Sg) : Option ((Int32 × Sg) ⊕ (Sg)) :=
  (f_X7_lines σ23).bind (fun t24 => (if t24 ≤ x22 then some (.inr σ23) else gd (okI ((1 : Int32) + x22) 496) (vl (gA σ23 46 ((1 : Int32) + x22).toNatClampNeg) (fun x27 => gd (okI ((11 : Int32) + x22) 496) (vl (gA σ23 46 ((11 : Int32) + x22).toNatClampNeg) (fun x29 => (if (((a1 >>> (x27 &&& 31)) &&& (a1 >>> (x29 &&& 31))) &&& (1 : Int32)) = (1 : Int32) then gd (okI x27 6) (gd (okI x29 6) (gd (okI ((21 : Int32) + x22) 496) (vl ((gJ σ23 53 x27.toNatClampNeg) + ((gJ σ23 52 x29.toNatClampNeg) * ((gA σ23 46 ((21 : Int32) + x22).toNatClampNeg).toInt64))) (fun x35 => gd (okI x27 6) (vl (pJ σ23 53 x27.toNatClampNeg x35) (fun σ37 => gd (okI x29 6) (gd (okI x27 6) (gd (okI ((21 : Int32) + x22) 496) (vl ((gJ σ37 53 x29.toNatClampNeg) + ((gJ σ37 52 x27.toNatClampNeg) * ((gA σ37 46 ((21 : Int32) + x22).toNatClampNeg).toInt64))) (fun x41 => gd (okI x29 6) (vl (pJ σ37 53 x29.toNatClampNeg x41) (fun σ43 => vl (x22 + (1 : Int32)) (fun x44 => some (.inl (x44, σ43))))))))))))))) else vl (x22 + (1 : Int32)) (fun x31 => some (.inl (x31, σ23))))))))))
def f_X7_within_B184 (x46 : Int32) (σ47 : Sg) : Option ((Int32 × Sg) ⊕ (Sg)) :=
  (if (6 : Int32) ≤ x46 then some (.inr σ47) else gd (okI x46 6) (vl (gJ σ47 53 x46.toNatClampNeg) (fun x50 => gd (okI x46 6) (vl (pJ σ47 52 x46.toNatClampNeg x50) (fun σ52 => vl (x46 + (1 : Int32)) (fun x53 => some (.inl (x53, σ52))))))))
def f_X7_within_B37 (a1 : Int32) (a3 : Int32) (x12 : Int32) (σ13 : Sg) : Option ((Int32 × Sg) ⊕ (Sg)) :=
  (if a3 ≤ x12 then some (.inr σ13) else (wl (fun a => f_X7_within_B46 a.1 a.2) FU ((0 : Int32), σ13)).bind (fun t21 => (wl (fun a => f_X7_within_B70 a1 a.1 a.2) FU ((0 : Int32), t21)).bind (fun t45 => (wl (fun a => f_X7_within_B184 a.1 a.2) FU ((0 : Int32), t45)).bind (fun t54 => vl (x12 + (1 : Int32)) (fun x55 => some (.inl (x55, t54)))))))
def f_X7_within_B223 (t56 : Sg) (x57 : Int64) (x58 : Int32) : Option ((Int64 × Int32) ⊕ (Int64)) :=
  (if (6 : Int32) ≤ x58 then some (.inr x57) else gd (okI x58 6) (vl (x57 + (gJ t56 52 x58.toNatClampNeg)) (fun x61 => vl (x58 + (1 : Int32)) (fun x62 => some (.inl (x61, x62))))))
def f_X7_within (σ : Sg) (a1 : Int32) (a2 : Int32) (a3 : Int32) : Option (Int64 × Sg) :=
  (wl (fun a => f_X7_within_B3 a2 a.1 a.2) FU ((0 : Int32), σ)).bind (fun t11 => (wl (fun a => f_X7_within_B37 a1 a3 a.1 a.2) FU ((0 : Int32), t11)).bind (fun t56 => (wl (fun a => f_X7_within_B223 t56 a.1 a.2) FU ((0 : Int64), (0 : Int32))).bind (fun t63 => some (t63, t56))))
def f_X7_walks_B83 (a1 : Int32) (a2 : Int32) (x7 : Int32) (x9 : Int64) (x10 : Int32) (σ11 : Sg) : Option ((Int64 × Int32 × Sg) ⊕ (Int64 × Sg)) :=
  (if x7 < x10 then some (.inr (x9, σ11)) else (if ((x10 >>> (a1 &&& 31)) &&& (1 : Int32)) = (1 : Int32) then (f_X7_ones x10).bind (fun t15 => (if (((gI σ11 17) - t15) - ((gI σ11 17) - t15) / (2 : Int32) * (2 : Int32)) = 0 then (f_X7_within σ11 x10 a1 a2).bind (fun t20 => vl (x9 + t20.1) (fun x21 => vl (x10 + (1 : Int32)) (fun x22 => some (.inl (x21, x22, t20.2))))) else (f_X7_within σ11 x10 a1 a2).bind (fun t17 => vl (x9 + (-t17.1)) (fun x18 => vl (x10 + (1 : Int32)) (fun x19 => some (.inl (x18, x19, t17.2))))))) else vl (x10 + (1 : Int32)) (fun x14 => some (.inl (x9, x14, σ11)))))
def f_X7_walks (σ : Sg) (a1 : Int32) (a2 : Int32) (a3 : Int32) : Option (Int64 × Sg) :=
  (f_X7_isNode σ a1).bind (fun t1 => (if t1 = 0 then some ((-1 : Int64), σ) else (f_X7_in a2.toInt64 (0 : Int64) (6 : Int64)).bind (fun t3 => (if t3 = 0 then some ((-1 : Int64), σ) else (f_X7_in a3.toInt64 (0 : Int64) (2 : Int64)).bind (fun t5 => (if t5 = 0 then some ((-1 : Int64), σ) else vl (((1 : Int32) <<< ((gI σ 17) &&& 31)) - (1 : Int32)) (fun x7 => (if (2 : Int32) ≤ a3 then (wl (fun a => f_X7_walks_B83 a1 a2 x7 a.1 a.2.1 a.2.2) FU ((0 : Int64), (1 : Int32), σ)).bind (fun t23 => some (t23.1, t23.2)) else (f_X7_within σ x7 a1 a2).bind (fun t24 => (if a3 = 0 then some (t24.1, t24.2) else gd (okI a1 6) (some (gJ t24.2 52 a1.toNatClampNeg, t24.2))))))))))))
def f_X7_trees (σ : Sg) : Option (Int64 × Sg) :=
  (f_X7_treesBut σ (-9 : Int32)).bind (fun t1 => some (t1.1, t1.2))
def f_X7_treesWith (σ : Sg) (a1 : Int32) : Option (Int64 × Sg) :=
  (f_X7_treesBut σ (-9 : Int32)).bind (fun t1 => (f_X7_treesBut t1.2 a1).bind (fun t2 => some (t1.1 - t2.1, t2.2)))
def f_X7_share (σ : Sg) (a1 : Int32) (a2 : Int32) : Option (Int64 × Sg) :=
  (f_X7_isLine σ a1).bind (fun t1 => (if t1 = 0 then some ((-1 : Int64), σ) else (f_X7_in a2.toInt64 (0 : Int64) (1 : Int64)).bind (fun t3 => (if t3 = 0 then some ((-1 : Int64), σ) else (f_X7_hangs σ (-9 : Int32)).bind (fun t5 => (if t5.1 = 0 then some ((-2 : Int64), t5.2) else (f_X7_treesWith t5.2 a1).bind (fun t7 => (f_X7_treesBut t7.2 (-9 : Int32)).bind (fun t8 => (f_X7_least t7.1 t8.1 a2).bind (fun t9 => some (t9, t8.2))))))))))
def f_X7_rank_J79 (x8 : Int32) (x9 : Int32) (σ16 : Sg) : Option ((Int32 × Int32 × Sg) ⊕ (Int32 × Sg)) :=
  vl (x8 + (1 : Int32)) (fun x17 => vl (x9 + (1 : Int32)) (fun x18 => some (.inl (x17, x18, σ16))))
def f_X7_rank_J83 (x8 : Int32) (x9 : Int32) (t20 : Int64 × Sg) : Option ((Int32 × Int32 × Sg) ⊕ (Int32 × Sg)) :=
  vl (x8 + (0 : Int32)) (fun x22 => vl (x9 + (1 : Int32)) (fun x23 => some (.inl (x22, x23, t20.2))))
def f_X7_rank_B33 (x4 : Int32) (x8 : Int32) (x9 : Int32) (σ10 : Sg) : Option ((Int32 × Int32 × Sg) ⊕ (Int32 × Sg)) :=
  (f_X7_lines σ10).bind (fun t11 => (if t11 ≤ x9 then some (.inr (x8, σ10)) else (f_X7_treesWith σ10 x9).bind (fun t13 => (f_X7_treesWith t13.2 x4).bind (fun t14 => (if t14.1 < t13.1 then f_X7_rank_J79 x8 x9 t14.2 else (f_X7_treesWith t14.2 x9).bind (fun t19 => (f_X7_treesWith t19.2 x4).bind (fun t20 => (if t19.1 = t20.1 then (if x4 ≤ x9 then f_X7_rank_J83 x8 x9 t20 else f_X7_rank_J79 x8 x9 t20.2) else f_X7_rank_J83 x8 x9 t20))))))))
def f_X7_rank_B20 (a1 : Int32) (x4 : Int32) (σ5 : Sg) : Option ((Int32 × Sg) ⊕ ((Sg) ⊕ (Int32 × Sg))) :=
  (f_X7_lines σ5).bind (fun t6 => (if t6 ≤ x4 then some (.inr (.inl σ5)) else (wl (fun a => f_X7_rank_B33 x4 a.1 a.2.1 a.2.2) FU ((0 : Int32), (0 : Int32), σ5)).bind (fun t25 => (if t25.1 = a1 then some (.inr (.inr (x4, t25.2))) else vl (x4 + (1 : Int32)) (fun x27 => some (.inl (x27, t25.2)))))))
def f_X7_rank (σ : Sg) (a1 : Int32) : Option (Int32 × Sg) :=
  (if 0 ≤ a1 then (f_X7_hangs σ (-9 : Int32)).bind (fun t2 => (if t2.1 = 0 then some ((-2 : Int32), t2.2) else (wl (fun a => f_X7_rank_B20 a1 a.1 a.2) FU ((0 : Int32), t2.2)).bind (Sum.elim (fun t28 => some ((-9 : Int32), t28)) (fun v => some v)))) else some ((-1 : Int32), σ))
def f_X7_resists_J17 (σ : Sg) (a1 : Int32) (a2 : Int32) (a3 : Int64) (a4 : Int64) (x2 : Int64) : Option (Sg) :=
  gd (decide (¬ x2 = 0)) (vl (a3 / x2) (fun x4 => gd (okI (((6 : Int32) * a1) + a2) 36) (vl (pJ σ 54 (((6 : Int32) * a1) + a2).toNatClampNeg x4) (fun σ6 => gd (decide (¬ x2 = 0)) (vl (a3 / x2) (fun x8 => gd (okI (((6 : Int32) * a2) + a1) 36) (vl (pJ σ6 54 (((6 : Int32) * a2) + a1).toNatClampNeg x8) (fun σ10 => gd (decide (¬ x2 = 0)) (vl (a4 / x2) (fun x12 => gd (okI (((6 : Int32) * a1) + a2) 36) (vl (pJ σ10 55 (((6 : Int32) * a1) + a2).toNatClampNeg x12) (fun σ14 => gd (decide (¬ x2 = 0)) (vl (a4 / x2) (fun x16 => gd (okI (((6 : Int32) * a2) + a1) 36) (vl (pJ σ14 55 (((6 : Int32) * a2) + a1).toNatClampNeg x16) (fun σ18 => some σ18))))))))))))))))
def f_X7_resists (σ : Sg) (a1 : Int32) (a2 : Int32) (a3 : Int64) (a4 : Int64) : Option (Sg) :=
  (if a4 = (0 : Int64) then f_X7_resists_J17 σ a1 a2 a3 a4 (1 : Int64) else (f_X7_common a3 a4).bind (fun t19 => f_X7_resists_J17 σ a1 a2 a3 a4 t19))
def f_X7_neighbour_B5 (σ : Sg) (a1 : Int32) (a2 : Int32) (x1 : Int32) (x2 : Int32) : Option ((Int32 × Int32) ⊕ ((Unit) ⊕ (Int32))) :=
  (if (gI σ 17) ≤ x2 then some (.inr (.inl ())) else gd (okI (((6 : Int32) * a1) + x2) 36) ((if (gJ σ 55 (((6 : Int32) * a1) + x2).toNatClampNeg) ≤ (0 : Int64) then vl (x2 + (1 : Int32)) (fun x6 => some (.inl (x1, x6))) else (if x1 = a2 then some (.inr (.inr x2)) else vl (x1 + (1 : Int32)) (fun x8 => vl (x2 + (1 : Int32)) (fun x9 => some (.inl (x8, x9))))))))
def f_X7_neighbour (σ : Sg) (a1 : Int32) (a2 : Int32) : Option (Int32) :=
  (wl (fun a => f_X7_neighbour_B5 σ a1 a2 a.1 a.2) FU ((0 : Int32), (0 : Int32))).bind (Sum.elim (fun t10 => some (-9 : Int32)) (fun v => some v))
def f_X7_goes_J170 (a1 : Int32) (t1 : Int32) (σ3 : Sg) : Option (Sg) :=
  (f_X7_resists σ3 a1 t1 (0 : Int64) (0 : Int64)).bind (fun t4 => some t4)
def f_X7_goes_J162 (a1 : Int32) (t1 : Int32) (t2 : Int32) (σ19 : Sg) : Option (Sg) :=
  (f_X7_resists σ19 a1 t2 (0 : Int64) (0 : Int64)).bind (fun t20 => f_X7_goes_J170 a1 t1 t20)
def f_X7_goes (σ : Sg) (a1 : Int32) : Option (Sg) :=
  (f_X7_neighbour σ a1 (0 : Int32)).bind (fun t1 => (f_X7_neighbour σ a1 (1 : Int32)).bind (fun t2 => (if t2 = (-9 : Int32) then f_X7_goes_J170 a1 t1 σ else gd (okI (((6 : Int32) * a1) + t1) 36) (gd (okI (((6 : Int32) * a1) + t2) 36) (gd (okI (((6 : Int32) * a1) + t2) 36) (gd (okI (((6 : Int32) * a1) + t1) 36) (vl (((gJ σ 54 (((6 : Int32) * a1) + t1).toNatClampNeg) * (gJ σ 55 (((6 : Int32) * a1) + t2).toNatClampNeg)) + ((gJ σ 54 (((6 : Int32) * a1) + t2).toNatClampNeg) * (gJ σ 55 (((6 : Int32) * a1) + t1).toNatClampNeg))) (fun x10 => gd (okI (((6 : Int32) * a1) + t1) 36) (gd (okI (((6 : Int32) * a1) + t2) 36) (vl ((gJ σ 55 (((6 : Int32) * a1) + t1).toNatClampNeg) * (gJ σ 55 (((6 : Int32) * a1) + t2).toNatClampNeg)) (fun x13 => gd (okI (((6 : Int32) * t1) + t2) 36) (vl (gJ σ 54 (((6 : Int32) * t1) + t2).toNatClampNeg) (fun x15 => gd (okI (((6 : Int32) * t1) + t2) 36) (vl (gJ σ 55 (((6 : Int32) * t1) + t2).toNatClampNeg) (fun x17 => (if x17 = (0 : Int64) then (f_X7_resists σ t1 t2 x10 x13).bind (fun t22 => f_X7_goes_J162 a1 t1 t2 t22) else (f_X7_resists σ t1 t2 (x10 * x15) ((x10 * x17) + (x15 * x13))).bind (fun t21 => f_X7_goes_J162 a1 t1 t2 t21)))))))))))))))))
def f_X7_reduced_B53 (x10 : Int32) (σ11 : Sg) : Option ((Int32 × Sg) ⊕ (Sg)) :=
  (if (36 : Int32) ≤ x10 then some (.inr σ11) else gd (okI x10 36) (vl (pJ σ11 55 x10.toNatClampNeg (0 : Int64)) (fun σ14 => vl (x10 + (1 : Int32)) (fun x15 => some (.inl (x15, σ14))))))
def f_X7_reduced_B77 (x17 : Int32) (σ18 : Sg) : Option ((Int32 × Sg) ⊕ (Sg)) :=
  (f_X7_lines σ18).bind (fun t19 => (if t19 ≤ x17 then some (.inr σ18) else gd (okI ((1 : Int32) + x17) 496) (gd (okI ((11 : Int32) + x17) 496) (gd (okI ((21 : Int32) + x17) 496) ((f_X7_resists σ18 (gA σ18 46 ((1 : Int32) + x17).toNatClampNeg) (gA σ18 46 ((11 : Int32) + x17).toNatClampNeg) (1 : Int64) ((gA σ18 46 ((21 : Int32) + x17).toNatClampNeg).toInt64)).bind (fun t24 => vl (x17 + (1 : Int32)) (fun x25 => some (.inl (x25, t24)))))))))
def f_X7_reduced_B138 (a1 : Int32) (a2 : Int32) (σ28 : Sg) (x30 : Int32) : Option ((Int32) ⊕ (Int32)) :=
  (if (gI σ28 17) ≤ x30 then some (.inr x30) else (if x30 = a1 then vl (x30 + (1 : Int32)) (fun x33 => some (.inl x33)) else (if x30 = a2 then vl (x30 + (1 : Int32)) (fun x35 => some (.inl x35)) else (f_X7_neighbour σ28 x30 (0 : Int32)).bind (fun t36 => (if t36 = (-9 : Int32) then vl (x30 + (1 : Int32)) (fun x38 => some (.inl x38)) else (f_X7_neighbour σ28 x30 (2 : Int32)).bind (fun t39 => (if t39 = (-9 : Int32) then some (.inr x30) else vl (x30 + (1 : Int32)) (fun x41 => some (.inl x41)))))))))
def f_X7_reduced_J203 (σ28 : Sg) (t42 : Int32) (x43 : Int32) : Option ((Int32 × Sg) ⊕ (Sg)) :=
  (if x43 = 0 then some (.inl (x43, σ28)) else (f_X7_goes σ28 t42).bind (fun t45 => some (.inl (x43, t45))))
def f_X7_reduced_B130 (a1 : Int32) (a2 : Int32) (x27 : Int32) (σ28 : Sg) : Option ((Int32 × Sg) ⊕ (Sg)) :=
  (if x27 = 0 then some (.inr σ28) else (wl (fun a => f_X7_reduced_B138 a1 a2 σ28 a) FU (0 : Int32)).bind (fun t42 => (if (gI σ28 17) ≤ t42 then f_X7_reduced_J203 σ28 t42 (0 : Int32) else f_X7_reduced_J203 σ28 t42 (1 : Int32))))
def f_X7_reduced_J263 (x48 : Int32) (x49 : Int32) : Option ((Int32 × Int32) ⊕ (Int32)) :=
  vl (x48 + (0 : Int32)) (fun x53 => vl (x49 + (1 : Int32)) (fun x54 => some (.inl (x53, x54))))
def f_X7_reduced_B225 (t47 : Sg) (x48 : Int32) (x49 : Int32) : Option ((Int32 × Int32) ⊕ (Int32)) :=
  (if (36 : Int32) ≤ x49 then some (.inr x48) else gd (okI x49 36) ((if (gJ t47 55 x49.toNatClampNeg) ≤ (0 : Int64) then f_X7_reduced_J263 x48 x49 else (if (x49 - x49 / (6 : Int32) * (6 : Int32)) ≤ (x49 / (6 : Int32)) then f_X7_reduced_J263 x48 x49 else vl (x48 + (1 : Int32)) (fun x56 => vl (x49 + (1 : Int32)) (fun x57 => some (.inl (x56, x57))))))))
def f_X7_reduced (σ : Sg) (a1 : Int32) (a2 : Int32) (a3 : Int32) : Option (Int64 × Sg) :=
  (f_X7_isNode σ a1).bind (fun t1 => (if t1 = 0 then some ((-1 : Int64), σ) else (f_X7_isNode σ a2).bind (fun t3 => (if t3 = 0 then some ((-1 : Int64), σ) else (if a1 = a2 then some ((-1 : Int64), σ) else (f_X7_in a3.toInt64 (0 : Int64) (2 : Int64)).bind (fun t6 => (if t6 = 0 then some ((-1 : Int64), σ) else (f_X7_hangs σ (-9 : Int32)).bind (fun t8 => (if t8.1 = 0 then some ((-2 : Int64), t8.2) else (wl (fun a => f_X7_reduced_B53 a.1 a.2) FU ((0 : Int32), t8.2)).bind (fun t16 => (wl (fun a => f_X7_reduced_B77 a.1 a.2) FU ((0 : Int32), t16)).bind (fun t26 => (wl (fun a => f_X7_reduced_B130 a1 a2 a.1 a.2) FU ((1 : Int32), t26)).bind (fun t47 => (wl (fun a => f_X7_reduced_B225 t47 a.1 a.2) FU ((0 : Int32), (0 : Int32))).bind (fun t58 => (if a3 = 0 then some (t58.toInt64, t47) else (if t58 ≤ (1 : Int32) then (if a3 = (1 : Int32) then gd (okI (((6 : Int32) * a1) + a2) 36) (some (gJ t47 54 (((6 : Int32) * a1) + a2).toNatClampNeg, t47)) else gd (okI (((6 : Int32) * a1) + a2) 36) (some (gJ t47 55 (((6 : Int32) * a1) + a2).toNatClampNeg, t47))) else some ((-9 : Int64), t47))))))))))))))))
def f_X7_worst_J103 (x11 : Int32) (t18 : Int64 × Sg) (t19 : Int64 × Sg) : Option ((Int32 × Int64 × Int64 × Int32 × Sg) ⊕ (Int32 × Sg)) :=
  vl (x11 + (1 : Int32)) (fun x20 => some (.inl (x11, t18.1, t19.1, x20, t19.2)))
def f_X7_worst_B47 (a1 : Int32) (a2 : Int32) (x8 : Int32) (x9 : Int64) (x10 : Int64) (x11 : Int32) (σ12 : Sg) : Option ((Int32 × Int64 × Int64 × Int32 × Sg) ⊕ (Int32 × Sg)) :=
  (f_X7_lines σ12).bind (fun t13 => (if t13 ≤ x11 then some (.inr (x8, σ12)) else (f_X7_hangs σ12 x11).bind (fun t15 => (if t15.1 = 0 then vl (x11 + (1 : Int32)) (fun x17 => some (.inl (x8, x9, x10, x17, t15.2))) else (f_X7_steps t15.2 a1 a2 x11).bind (fun t18 => (f_X7_treesBut t18.2 x11).bind (fun t19 => (if x8 = (-9 : Int32) then f_X7_worst_J103 x11 t18 t19 else (if (t18.1 * x10) ≤ (x9 * t19.1) then vl (x11 + (1 : Int32)) (fun x23 => some (.inl (x8, x9, x10, x23, t19.2))) else f_X7_worst_J103 x11 t18 t19))))))))
def f_X7_worst (σ : Sg) (a1 : Int32) (a2 : Int32) : Option (Int32 × Sg) :=
  (f_X7_isNode σ a1).bind (fun t1 => (if t1 = 0 then some ((-1 : Int32), σ) else (f_X7_isNode σ a2).bind (fun t3 => (if t3 = 0 then some ((-1 : Int32), σ) else (if a1 = a2 then some ((-1 : Int32), σ) else (f_X7_hangs σ (-9 : Int32)).bind (fun t6 => (if t6.1 = 0 then some ((-2 : Int32), t6.2) else (wl (fun a => f_X7_worst_B47 a1 a2 a.1 a.2.1 a.2.2.1 a.2.2.2.1 a.2.2.2.2) FU ((-9 : Int32), (0 : Int64), (1 : Int64), (0 : Int32), t6.2)).bind (fun t24 => some (t24.1, t24.2)))))))))
def f_X7_power_B5 (a1 : Int64) (a2 : Int32) (x1 : Int64) (x2 : Int32) : Option ((Int64 × Int32) ⊕ (Int64)) :=
  (if a2 ≤ x2 then some (.inr x1) else vl (x1 * a1) (fun x4 => vl (x2 + (1 : Int32)) (fun x5 => some (.inl (x4, x5)))))
def f_X7_power (a1 : Int64) (a2 : Int32) : Option (Int64) :=
  (wl (fun a => f_X7_power_B5 a1 a2 a.1 a.2) FU ((1 : Int64), (0 : Int32))).bind (fun t6 => some t6)
def f_X7_odds_B31 (a1 : Int32) (x5 : Int64) (x6 : Int32) (σ7 : Sg) : Option ((Int64 × Int32 × Sg) ⊕ (Int64 × Sg)) :=
  (f_X7_lines σ7).bind (fun t8 => (if ((1 : Int32) <<< (t8 &&& 31)) ≤ x6 then some (.inr (x5, σ7)) else (f_X7_parts σ7 x6).bind (fun t10 => (f_X7_isTogether t10.2).bind (fun t11 => (if t11 = 0 then vl (x5 + (0 : Int64)) (fun x13 => vl (x6 + (1 : Int32)) (fun x14 => some (.inl (x13, x14, t10.2)))) else (f_X7_ones x6).bind (fun t15 => (f_X7_power (((10 : Int32) - a1).toInt64) t15).bind (fun t16 => (f_X7_lines t10.2).bind (fun t17 => (f_X7_ones x6).bind (fun t18 => (f_X7_power a1.toInt64 (t17 - t18)).bind (fun t19 => vl (x5 + (t16 * t19)) (fun x20 => vl (x6 + (1 : Int32)) (fun x21 => some (.inl (x20, x21, t10.2))))))))))))))
def f_X7_odds (σ : Sg) (a1 : Int32) (a2 : Int32) : Option (Int64 × Sg) :=
  (f_X7_in a1.toInt64 (0 : Int64) (10 : Int64)).bind (fun t1 => (if t1 = 0 then some ((-1 : Int64), σ) else (f_X7_in a2.toInt64 (0 : Int64) (1 : Int64)).bind (fun t3 => (if t3 = 0 then some ((-1 : Int64), σ) else (wl (fun a => f_X7_odds_B31 a1 a.1 a.2.1 a.2.2) FU ((0 : Int64), (0 : Int32), σ)).bind (fun t22 => (f_X7_lines t22.2).bind (fun t23 => (f_X7_power (10 : Int64) t23).bind (fun t24 => (f_X7_least t22.1 t24 a2).bind (fun t25 => some (t25, t22.2)))))))))
def f_X7_sees (σ : Sg) (a1 : Int64) : Option (Int32 × Sg) :=
  (if (0 : Int64) ≤ a1 then (if (gI σ 20) = (6 : Int32) then some ((-3 : Int32), σ) else gd (okI (gI σ 20) 6) (vl (pJ σ 49 (gI σ 20).toNatClampNeg a1) (fun σ4 => vl ((gI σ4 20) + (1 : Int32)) (fun x5 => vl (pI σ4 20 x5) (fun σ6 => some (gI σ6 20, σ6)))))) else some ((-1 : Int32), σ))
def f_X7_forget (σ : Sg) : Option (Int32 × Sg) :=
  vl (gI σ 20) (fun x1 => vl (pI σ 20 (0 : Int32)) (fun σ2 => some (x1, σ2)))
def f_X7_unseen_B17 (x2 : Int32) (x6 : Int32) (x7 : Int32) (σ8 : Sg) : Option ((Int32 × Int32 × Sg) ⊕ (Int32 × Sg)) :=
  (if (gI σ8 20) ≤ x7 then some (.inr (x6, σ8)) else (if x6 = 0 then vl (x7 + (1 : Int32)) (fun x11 => some (.inl ((0 : Int32), x11, σ8))) else (f_X7_treesBut σ8 x2).bind (fun t12 => gd (okI x7 6) ((if t12.1 = (gJ t12.2 49 x7.toNatClampNeg) then vl (x7 + (1 : Int32)) (fun x16 => some (.inl ((1 : Int32), x16, t12.2))) else vl (x7 + (1 : Int32)) (fun x15 => some (.inl ((0 : Int32), x15, t12.2))))))))
def f_X7_unseen_B4 (x1 : Int32) (x2 : Int32) (σ3 : Sg) : Option ((Int32 × Int32 × Sg) ⊕ (Int32 × Sg)) :=
  (f_X7_lines σ3).bind (fun t4 => (if t4 ≤ x2 then some (.inr (x1, σ3)) else (wl (fun a => f_X7_unseen_B17 x2 a.1 a.2.1 a.2.2) FU ((1 : Int32), (0 : Int32), σ3)).bind (fun t17 => (if t17.1 = 0 then vl (x1 ||| (0 : Int32)) (fun x19 => vl (x2 + (1 : Int32)) (fun x20 => some (.inl (x19, x20, t17.2)))) else vl (x1 ||| ((1 : Int32) <<< (x2 &&& 31))) (fun x21 => vl (x2 + (1 : Int32)) (fun x22 => some (.inl (x21, x22, t17.2))))))))
def f_X7_unseen (σ : Sg) : Option (Int32 × Sg) :=
  (wl (fun a => f_X7_unseen_B4 a.1 a.2.1 a.2.2) FU ((0 : Int32), (0 : Int32), σ)).bind (fun t23 => some (t23.1, t23.2))
def f_X7_keep (σ : Sg) (a1 : Int32) : Option (Int32 × Sg) :=
  (f_X7_in a1.toInt64 (0 : Int64) (1 : Int64)).bind (fun t1 => (if t1 = 0 then some ((-1 : Int32), σ) else (f_X7_copyRow σ (0 : Int32) ((403 : Int32) + ((31 : Int32) * a1))).bind (fun t3 => gd (okI a1 2) (vl (pA t3 47 a1.toNatClampNeg (1 : Int32)) (fun σ5 => some (gI σ5 17, σ5))))))
def f_X7_back (σ : Sg) (a1 : Int32) : Option (Int32 × Sg) :=
  (f_X7_in a1.toInt64 (0 : Int64) (1 : Int64)).bind (fun t1 => (if t1 = 0 then some ((-1 : Int32), σ) else gd (okI a1 2) ((if (gA σ 47 a1.toNatClampNeg) = 0 then some ((-2 : Int32), σ) else (f_X7_copyRow σ ((403 : Int32) + ((31 : Int32) * a1)) (0 : Int32)).bind (fun t5 => vl (pI t5 18 (0 : Int32)) (fun σ6 => some (gI σ6 17, σ6)))))))
def f_X7_count (σ : Sg) (a1 : Int32) : Option (Int32 × Sg) :=
  (if a1 = (0 : Int32) then some (gI σ 17, σ) else (if a1 = (1 : Int32) then (f_X7_lines σ).bind (fun t1 => some (t1, σ)) else (if a1 = (2 : Int32) then (f_X7_whole σ).bind (fun t2 => some (t2, σ)) else (if a1 = (3 : Int32) then (f_X7_hangs σ (-9 : Int32)).bind (fun t3 => (if t3.1 = 0 then some ((0 : Int32), t3.2) else some ((1 : Int32), t3.2))) else (if a1 = (4 : Int32) then some (gI σ 20, σ) else (if a1 = (5 : Int32) then some (gI σ 19, σ) else (if a1 = (6 : Int32) then some (gI σ 18, σ) else some ((-1 : Int32), σ))))))))
