/-! smaller nets: the reference's rows -/
def Sy (σ : Sg) (n : Nat) (U D : Nat → Nat → Nat) : Prop := gI σ 17 = nI n ∧ ∀ a b, a < 6 → b < 6 → gJ σ 55 (6 * a + b) = lN (D a b) ∧ (D a b ≠ 0 → gJ σ 54 (6 * a + b) = lN (U a b))
theorem Sy.cg {σ : Sg} {n : Nat} {U U' D : Nat → Nat → Nat} (h : Sy σ n U D) (e : ∀ a b, D a b ≠ 0 → U a b = U' a b) : Sy σ n U' D := ⟨h.1, fun a b ha hb => ⟨(h.2 a b ha hb).1, fun q => by rw [← e a b q]; exact (h.2 a b ha hb).2 q⟩⟩
abbrev FrQ (σ σ' : Sg) : Prop := Fr [] [] [54, 55] σ σ'
theorem jx6 (u v : Nat) : (6 : Int32) * nI u + nI v = nI (6 * u + v) := by rw [il_6, pk_mul, nI_add]
theorem f_resJ_yes {σ : Sg} {n a b P Q g : Nat} {U D : Nat → Nat → Nat} (h : Sy σ n U D) (hn : n ≤ 6) (ha : a < n) (hb : b < n) (hg : 0 < g) (hg2 : g < 2 ^ 63) (hP : P < 2 ^ 63) (hQ : Q < 2 ^ 63) : ∃ σ', f_X7_resists_J17 σ (nI a) (nI b) (lN P) (lN Q) (lN g) = some σ' ∧ FrQ σ σ' ∧ Sy σ' n (p2 U a b (P / g)) (p2 D a b (Q / g)) := by
  have hne : ¬ lN g = 0 := fun q => by
    have := (lN_0 hg2).mp q
    omega
  unfold f_X7_resists_J17
  rw [gd_h (decide_eq_true hne), lN_div hP hg2, vl_e, jx6, jx6, gd_h (okI_nI (by omega) (by omega)), nI_clamp (by omega), vl_e, gd_h (decide_eq_true hne), vl_e, gd_h (okI_nI (by omega) (by omega)), nI_clamp (by omega), vl_e, gd_h (decide_eq_true hne), lN_div hQ hg2, vl_e, gd_h (okI_nI (by omega) (by omega)), vl_e, gd_h (decide_eq_true hne), vl_e, gd_h (okI_nI (by omega) (by omega)), vl_e]
  refine ⟨_, rfl, (((Fr.pJ (by simp)).tr (Fr.pJ (by simp))).tr (Fr.pJ (by simp))).tr (Fr.pJ (by simp)), h.1, fun x y hx hy => ?_⟩
  have e41 : gJ (pJ (pJ (pJ (pJ σ 54 (6 * a + b) (lN (P / g))) 54 (6 * b + a) (lN (P / g))) 55 (6 * a + b) (lN (Q / g))) 55 (6 * b + a) (lN (Q / g))) 55 (6 * x + y) = if (x = a ∧ y = b) ∨ (x = b ∧ y = a) then lN (Q / g) else gJ σ 55 (6 * x + y) := by
    show vp_updL (vp_updL (gJ σ 55) (6 * a + b) (lN (Q / g))) (6 * b + a) (lN (Q / g)) (6 * x + y) = _
    rw [updL_at, updL_at]
    by_cases c1 : 6 * x + y = 6 * b + a
    · rw [if_pos c1, if_pos (Or.inr (by omega))]
    · rw [if_neg c1]
      by_cases c2 : 6 * x + y = 6 * a + b
      · rw [if_pos c2, if_pos (Or.inl (by omega))]
      · rw [if_neg c2, if_neg (by rintro (⟨rfl, rfl⟩ | ⟨rfl, rfl⟩) <;> omega)]
  have e40 : gJ (pJ (pJ (pJ (pJ σ 54 (6 * a + b) (lN (P / g))) 54 (6 * b + a) (lN (P / g))) 55 (6 * a + b) (lN (Q / g))) 55 (6 * b + a) (lN (Q / g))) 54 (6 * x + y) = if (x = a ∧ y = b) ∨ (x = b ∧ y = a) then lN (P / g) else gJ σ 54 (6 * x + y) := by
    show vp_updL (vp_updL (gJ σ 54) (6 * a + b) (lN (P / g))) (6 * b + a) (lN (P / g)) (6 * x + y) = _
    rw [updL_at, updL_at]
    by_cases c1 : 6 * x + y = 6 * b + a
    · rw [if_pos c1, if_pos (Or.inr (by omega))]
    · rw [if_neg c1]
      by_cases c2 : 6 * x + y = 6 * a + b
      · rw [if_pos c2, if_pos (Or.inl (by omega))]
      · rw [if_neg c2, if_neg (by rintro (⟨rfl, rfl⟩ | ⟨rfl, rfl⟩) <;> omega)]
  rw [e41, e40]
  unfold p2
  by_cases c : (x = a ∧ y = b) ∨ (x = b ∧ y = a)
  · rw [if_pos c, if_pos c, if_pos c, if_pos c]
    exact ⟨rfl, fun _ => rfl⟩
  · rw [if_neg c, if_neg c, if_neg c, if_neg c]
    exact h.2 x y hx hy
theorem f_res0_yes {σ : Sg} {n a b : Nat} {U D : Nat → Nat → Nat} (h : Sy σ n U D) (hn : n ≤ 6) (ha : a < n) (hb : b < n) : ∃ σ', f_X7_resists σ (nI a) (nI b) (0 : Int64) (0 : Int64) = some σ' ∧ FrQ σ σ' ∧ Sy σ' n U (p2 D a b 0) := by
  obtain ⟨σ1, p1, p2', p3⟩ := f_resJ_yes (P := 0) (Q := 0) (g := 1) h hn ha hb (by omega) (by omega) (by omega) (by omega)
  refine ⟨σ1, ?_, p2', (show Sy σ1 n (p2 U a b (0 / 1)) (p2 D a b 0) from p3).cg p2_0⟩
  unfold f_X7_resists
  rw [if_pos rfl]
  exact p1
theorem f_res_yes {σ : Sg} {n a b P Q : Nat} {U D : Nat → Nat → Nat} (h : Sy σ n U D) (hn : n ≤ 6) (ha : a < n) (hb : b < n) (hP : P < 2 ^ 63) (hQ : Q < 2 ^ 63) (hq : 0 < Q) : ∃ σ', f_X7_resists σ (nI a) (nI b) (lN P) (lN Q) = some σ' ∧ FrQ σ σ' ∧ Sy σ' n (p2 U a b (P / Nat.gcd P Q)) (p2 D a b (Q / Nat.gcd P Q)) := by
  obtain ⟨σ1, p1, p2', p3⟩ := f_resJ_yes (P := P) (Q := Q) (g := Nat.gcd P Q) h hn ha hb (Nat.gcd_pos_of_pos_right _ hq) (gcd_lt hP hQ) hP hQ
  refine ⟨σ1, ?_, p2', p3⟩
  unfold f_X7_resists
  rw [if_neg (fun r => by have := (lN_0 hQ).mp r; omega), f_common_yes hP hQ, Option.bind_some]
  exact p1
def nbI (o : Option Nat) : Int32 := match o with
  | some a => nI a
  | none => -9
theorem f_nb_yes {σ : Sg} {n x k : Nat} {U D : Nat → Nat → Nat} (h : Sy σ n U D) (hn : n ≤ 6) (hz : Sz n U D) (hx : x < n) (hk : k ≤ 6) : f_X7_neighbour σ (nI x) (nI k) = some (nbI (nbs n D x)[k]?) := by
  have hcut : ∀ i, i < n → D x i ≠ 0 → nbs n D x = ((List.range i).filter (fun y => decide (D x y ≠ 0)) ++ [i]) ++ ((List.range (n - (i + 1))).map (i + 1 + ·)).filter (fun y => decide (D x y ≠ 0)) := fun i hi hd => by
    unfold nbs
    conv => lhs; rw [show n = (i + 1) + (n - (i + 1)) by omega, List.range_add, List.range_succ]
    rw [List.filter_append, List.filter_append, show List.filter (fun y => decide (D x y ≠ 0)) [i] = [i] by rw [List.filter_cons, if_pos (decide_eq_true hd)]; rfl]
  unfold f_X7_neighbour
  have key := wl_inv (body := fun q : Int32 × Int32 => f_X7_neighbour_B5 σ (nI x) (nI k) q.1 q.2) (N := n) (I := fun i (q : Int32 × Int32) => q = (nI ((List.range i).filter (fun y => decide (D x y ≠ 0))).length, nI i) ∧ ((List.range i).filter (fun y => decide (D x y ≠ 0))).length ≤ k) (Post := fun b : Unit ⊕ Int32 => Sum.elim (fun _ => some (-9 : Int32)) (fun v => some v) b = some (nbI (nbs n D x)[k]?)) (fun i q hi hI => ?_) FU 0 ((0 : Int32), (0 : Int32)) ⟨rfl, Nat.zero_le _⟩ (Nat.zero_le _) (FU_big (by omega))
  · obtain ⟨b, k1, k2⟩ := key
    rw [k1, Option.bind_some]
    exact k2
  · obtain ⟨rfl, hc⟩ := hI
    dsimp only
    have hci : ((List.range i).filter (fun y => decide (D x y ≠ 0))).length ≤ i := by
      have := List.length_filter_le (fun y => decide (D x y ≠ 0)) (List.range i)
      rw [List.length_range] at this
      exact this
    unfold f_X7_neighbour_B5
    rw [h.1]
    by_cases he : i = n
    · subst he
      rw [if_pos (nI_le (Nat.le_refl _) (by omega))]
      refine ⟨_, rfl, Or.inr ⟨_, rfl, ?_⟩⟩
      rw [show (nbs i D x)[k]? = none from List.getElem?_eq_none hc]
      rfl
    · have hlt : i < n := by omega
      rw [if_neg (nI_ge hlt (by omega)), jx6, gd_h (okI_nI (by omega) (by omega)), nI_clamp (by omega), (h.2 x i (by omega) (by omega)).1]
      by_cases c : D x i = 0
      · rw [c, if_pos (show lN 0 ≤ 0 by decide), nI_1, vl_e]
        have e1 : (List.range (i + 1)).filter (fun y => decide (D x y ≠ 0)) = (List.range i).filter (fun y => decide (D x y ≠ 0)) := by
          rw [List.range_succ, List.filter_append, List.filter_cons, if_neg (by simp [c])]
          simp
        exact ⟨_, rfl, Or.inl ⟨_, rfl, hlt, by rw [e1], by rw [e1]; exact hc⟩⟩
      · have hs := (hz x i hx hlt c).2
        rw [if_neg (by rw [jl_0, lN_l (by omega) (by omega)]; omega)]
        have e1 : (List.range (i + 1)).filter (fun y => decide (D x y ≠ 0)) = (List.range i).filter (fun y => decide (D x y ≠ 0)) ++ [i] := by
          rw [List.range_succ, List.filter_append, show List.filter (fun y => decide (D x y ≠ 0)) [i] = [i] by rw [List.filter_cons, if_pos (decide_eq_true c)]; rfl]
        by_cases ck : ((List.range i).filter (fun y => decide (D x y ≠ 0))).length = k
        · rw [if_pos (by rw [ck])]
          refine ⟨_, rfl, Or.inr ⟨_, rfl, ?_⟩⟩
          rw [hcut i hlt c, List.getElem?_append_left (by rw [List.length_append, ck]; simp), List.getElem?_append_right (by omega), ck, Nat.sub_self]
          rfl
        · rw [if_neg (by rw [nI_eq (by omega) (by omega)]; exact ck), nI_1, vl_e, nI_1, vl_e]
          refine ⟨_, rfl, Or.inl ⟨_, rfl, hlt, ?_, ?_⟩⟩
          · rw [e1, List.length_append]
            rfl
          · rw [e1, List.length_append]
            show _ + 1 ≤ k
            omega
