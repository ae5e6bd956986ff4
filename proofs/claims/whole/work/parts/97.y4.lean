/-! smaller nets: a node goes, in the reference -/
theorem nbI_n : nbI none = -9 := rfl
theorem nbI_s (a : Nat) : nbI (some a) = nI a := rfl
theorem f_goes1_yes {σ : Sg} {n x a : Nat} {U D : Nat → Nat → Nat} (h : Sy σ n U D) (hn : n ≤ 6) (hz : Sz n U D) (hx : x < n) (hl : nbs n D x = [a]) : ∃ σ', f_X7_goes σ (nI x) = some σ' ∧ FrQ σ σ' ∧ Sy σ' n U (D1 D x a) := by
  obtain ⟨ha, hd, ho⟩ := nbs_one hl
  have e0 : f_X7_neighbour σ (nI x) (0 : Int32) = some (nI a) := by
    have := f_nb_yes (k := 0) h hn hz hx (by omega)
    rw [hl] at this
    exact this
  have e1 : f_X7_neighbour σ (nI x) (1 : Int32) = some (-9) := by
    have := f_nb_yes (k := 1) h hn hz hx (by omega)
    rw [hl] at this
    exact this
  obtain ⟨σ1, p1, p2', p3⟩ := f_res0_yes h hn hx ha
  refine ⟨σ1, ?_, p2', p3⟩
  unfold f_X7_goes f_X7_goes_J170
  rw [e0, Option.bind_some, e1, Option.bind_some, if_pos rfl, p1, Option.bind_some]
theorem f_goes2_yes {σ : Sg} {n x a b : Nat} {U D : Nat → Nat → Nat} (h : Sy σ n U D) (hn : n ≤ 6) (hz : Sz n U D) (hx : x < n) (hl : nbs n D x = [a, b]) (hB : Bx U D x a b) : ∃ σ', f_X7_goes σ (nI x) = some σ' ∧ FrQ σ σ' ∧ Sy σ' n (U2 U D x a b) (D2 U D x a b) := by
  obtain ⟨hab, hb, hda, hdb, ho⟩ := nbs_two hl
  have ha : a < n := by omega
  obtain ⟨B1, B2, B3, B4, B5, B6⟩ := hB
  have e0 : f_X7_neighbour σ (nI x) (0 : Int32) = some (nI a) := by
    have := f_nb_yes (k := 0) h hn hz hx (by omega)
    rw [hl] at this
    exact this
  have e1 : f_X7_neighbour σ (nI x) (1 : Int32) = some (nI b) := by
    have := f_nb_yes (k := 1) h hn hz hx (by omega)
    rw [hl] at this
    exact this
  have hxa := h.2 x a (by omega) (by omega)
  have hxb := h.2 x b (by omega) (by omega)
  have hgab := h.2 a b (by omega) (by omega)
  have first : ∃ σ1, (if lN (D a b) = (0 : Int64) then (f_X7_resists σ (nI a) (nI b) (lN (upx U D x a b)) (lN (lox D x a b))).bind (fun t22 => f_X7_goes_J162 (nI x) (nI a) (nI b) t22) else (f_X7_resists σ (nI a) (nI b) (lN (upx U D x a b) * gJ σ 54 (6 * a + b)) ((lN (upx U D x a b) * lN (D a b)) + (gJ σ 54 (6 * a + b) * lN (lox D x a b)))).bind (fun t21 => f_X7_goes_J162 (nI x) (nI a) (nI b) t21)) = f_X7_goes_J162 (nI x) (nI a) (nI b) σ1 ∧ FrQ σ σ1 ∧ Sy σ1 n (U2 U D x a b) (p2 D a b (Qx U D x a b / Gx U D x a b)) := by
    by_cases c : D a b = 0
    · obtain ⟨σ1, p1, p2', p3⟩ := f_res_yes (P := upx U D x a b) (Q := lox D x a b) h hn ha hb (by omega) (by omega) B5
      refine ⟨σ1, ?_, p2', ?_⟩
      · rw [if_pos (show lN (D a b) = 0 by rw [c]; rfl), p1, Option.bind_some]
      · unfold U2 Gx Px Qx
        rw [if_pos c, if_pos c]
        exact p3
    · have hs := hz a b ha hb c
      unfold Px at B3
      unfold Qx at B4 B6
      rw [if_neg c] at B3 B4 B6
      obtain ⟨σ1, p1, p2', p3⟩ := f_res_yes (P := upx U D x a b * U a b) (Q := upx U D x a b * D a b + lox D x a b * U a b) h hn ha hb (by omega) (by omega) B6
      refine ⟨σ1, ?_, p2', ?_⟩
      · rw [if_neg (fun q => c ((lN_0 (by omega)).mp q)), hgab.2 c, lN_mul, lN_mul, lN_mul, lN_add, Nat.mul_comm (U a b) (lox D x a b), p1, Option.bind_some]
      · unfold U2 Gx Px Qx
        rw [if_neg c, if_neg c]
        exact p3
  obtain ⟨σ1, b1, b2, b3⟩ := first
  obtain ⟨σ2, c1, c2, c3⟩ := f_res0_yes b3 hn hx hb
  obtain ⟨σ3, d1, d2, d3⟩ := f_res0_yes c3 hn hx ha
  refine ⟨σ3, ?_, (b2.tr c2).tr d2, d3⟩
  unfold upx lox at b1
  unfold f_X7_goes
  rw [e0, Option.bind_some, e1, Option.bind_some, if_neg (nI_m9 (by omega)), jx6, jx6, jx6, gd_h (okI_nI (by omega) (by omega)), gd_h (okI_nI (by omega) (by omega)), gd_h (okI_nI (by omega) (by omega)), gd_h (okI_nI (by omega) (by omega)), nI_clamp (by omega), nI_clamp (by omega), hxa.2 hda, hxb.1, hxb.2 hdb, hxa.1, lN_mul, lN_mul, lN_add, vl_e, gd_h (okI_nI (by omega) (by omega)), gd_h (okI_nI (by omega) (by omega)), lN_mul, vl_e, gd_h (okI_nI (by omega) (by omega)), nI_clamp (by omega), vl_e, gd_h (okI_nI (by omega) (by omega)), hgab.1, vl_e, b1]
  unfold f_X7_goes_J162 f_X7_goes_J170
  rw [c1, Option.bind_some, d1, Option.bind_some]
/-! the bound -/
def dd (n : Nat) (K : Nat → Nat → Nat) : Nat := ((List.range n).map (fun i => ((List.range n).map (K i)).sum)).sum
def Iv (n : Nat) (U D K : Nat → Nat → Nat) : Prop := (∀ a b, D a b = D b a) ∧ (∀ a b, U a b = U b a) ∧ (∀ a b, K a b = K b a) ∧ (∀ a, D a a = 0) ∧ (∀ a b, D a b ≠ 0 → 0 < U a b ∧ U a b + D a b ≤ 10 ^ K a b) ∧ dd n K ≤ 20
theorem sum_ge {f : Nat → Nat} : ∀ n x, x < n → f x ≤ ((List.range n).map f).sum
  | 0, x, h => absurd h (Nat.not_lt_zero _)
  | n + 1, x, h => by
    rw [sum_range_succ]
    by_cases c : x = n
    · subst c
      omega
    · have := sum_ge n x (by omega) (f := f)
      omega
theorem sum_ge2 {f : Nat → Nat} : ∀ n x y, x < y → y < n → f x + f y ≤ ((List.range n).map f).sum
  | 0, _, _, _, h => absurd h (Nat.not_lt_zero _)
  | n + 1, x, y, hxy, h => by
    rw [sum_range_succ]
    by_cases c : y = n
    · subst c
      have := sum_ge (f := f) y x hxy
      omega
    · have := sum_ge2 n x y hxy (by omega) (f := f)
      omega
