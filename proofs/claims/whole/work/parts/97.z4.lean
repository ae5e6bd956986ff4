/-! smaller nets: lines left, in both -/
def E1 (D : Nat → Nat → Nat) (a b : Nat) : Nat := if D a b ≠ 0 then 1 else 0
def ct (D : Nat → Nat → Nat) (c : Nat) : Nat := if D (c / 6) (c % 6) ≠ 0 ∧ c / 6 < c % 6 then 1 else 0
def Cn (D : Nat → Nat → Nat) : Nat := ((List.range 36).map (ct D)).sum
theorem by6 : ∀ c, c < 36 → nI c / (6 : Int32) = nI (c / 6) ∧ nI c - nI c / (6 : Int32) * (6 : Int32) = nI (c % 6) := by decide +kernel
theorem f_mleft_yes {σ : Sg} {n : Nat} {U D : Nat → Nat → Nat} (h : Sy σ n U D) (hz : ∀ a b, D a b < 2 ^ 62) : wl (fun a : Int32 × Int32 => f_X7_reduced_B225 σ a.1 a.2) FU ((0 : Int32), (0 : Int32)) = some (nI (Cn D)) := by
  have key := wl_run (body := fun a : Int32 × Int32 => f_X7_reduced_B225 σ a.1 a.2) (fun i => (nI (((List.range i).map (ct D)).sum), nI i)) 36 (b := nI (Cn D)) (fun i hi => ?_) ?_ FU (FU_big (by omega))
  · exact key
  · dsimp only
    obtain ⟨q1, q2⟩ := by6 i hi
    have hc := (h.2 (i / 6) (i % 6) (by omega) (by omega)).1
    rw [show 6 * (i / 6) + i % 6 = i by omega] at hc
    have hzz := hz (i / 6) (i % 6)
    unfold f_X7_reduced_B225 f_X7_reduced_J263
    rw [il_36, if_neg (nI_ge hi (by omega)), gd_h (okI_nI (by omega) (by omega)), nI_clamp (by omega), hc, q2, q1, il_0, nI_add, vl_e, nI_1, vl_e, sum_range_succ, nI_1, vl_e, vl_e]
    unfold ct
    by_cases c : D (i / 6) (i % 6) = 0
    · rw [c, if_pos (show lN 0 ≤ 0 by decide), if_neg (fun r => r.1 rfl)]
    · rw [if_neg (by rw [jl_0, lN_l (by omega) (by omega)]; omega)]
      by_cases c2 : i / 6 < i % 6
      · rw [if_neg (nI_ge c2 (by omega)), if_pos ⟨c, c2⟩]
      · rw [if_pos (nI_le (by omega) (by omega)), if_neg (fun r => c2 r.2)]
  · dsimp only
    unfold f_X7_reduced_B225
    rw [il_36, if_pos (nI_le (Nat.le_refl _) (by omega))]
    rfl
theorem nbs_sum {n x : Nat} {D : Nat → Nat → Nat} : (nbs n D x).length = ((List.range n).map (E1 D x)).sum := by
  unfold nbs
  have key : ∀ L : List Nat, (L.filter (fun y => decide (D x y ≠ 0))).length = (L.map (E1 D x)).sum := by
    intro L
    induction L with
    | nil => rfl
    | cons y L ih =>
      rw [List.map_cons, List.sum_cons, ← ih, List.filter_cons]
      unfold E1
      by_cases c : D x y ≠ 0
      · rw [if_pos (decide_eq_true c), if_pos c, List.length_cons, Nat.add_comm]
      · rw [if_neg (by simpa using c), if_neg c, Nat.zero_add]
  exact key _
theorem sum_more {g : Nat → Nat} {n : Nat} : ∀ k, (∀ x, n ≤ x → g x = 0) → ((List.range (n + k)).map g).sum = ((List.range n).map g).sum
  | 0, _ => rfl
  | k + 1, h => by
    rw [show n + (k + 1) = (n + k) + 1 by omega, sum_range_succ, sum_more k h, h (n + k) (by omega), Nat.add_zero]
theorem two_C {n : Nat} {D : Nat → Nat → Nat} (hn : n ≤ 6) (hs : ∀ a b, D a b = D b a) (h0 : ∀ a, D a a = 0) (hO : Out n D) : Sn2 n D = 2 * Cn D := by
  have e1 : Sn2 n D = ((List.range 6).map (fun x => ((List.range 6).map (E1 D x)).sum)).sum := by
    unfold Sn2
    have z : ∀ a b, (n ≤ a ∨ n ≤ b) → E1 D a b = 0 := fun a b q => by
      unfold E1
      rw [if_neg (fun r => r (hO a b q))]
    have i1 : ∀ x, ((List.range 6).map (E1 D x)).sum = ((List.range n).map (E1 D x)).sum := fun x => by
      have := sum_more (g := E1 D x) (n := n) (6 - n) (fun y hy => z x y (Or.inr hy))
      rw [show n + (6 - n) = 6 by omega] at this
      exact this
    have i2 := sum_more (g := fun x => ((List.range 6).map (E1 D x)).sum) (n := n) (6 - n) (fun x hx => by
      have : ∀ m, ((List.range m).map (E1 D x)).sum = 0 := by
        intro m
        induction m with
        | zero => rfl
        | succ m ih => rw [sum_range_succ, ih, z x m (Or.inl hx)]
      exact this 6)
    rw [show n + (6 - n) = 6 by omega] at i2
    rw [i2]
    congr 1
    exact List.map_congr_left (fun x _ => by rw [i1 x, nbs_sum])
  have sE : ∀ a b, E1 D a b = E1 D b a := fun a b => by unfold E1; rw [hs a b]
  have dE : ∀ a, E1 D a a = 0 := fun a => by unfold E1; rw [if_neg (fun r => r (h0 a))]
  have cE : ∀ c, ct D c = if c / 6 < c % 6 then E1 D (c / 6) (c % 6) else 0 := fun c => by
    unfold ct E1
    by_cases q : c / 6 < c % 6
    · rw [if_pos q]
      by_cases r : D (c / 6) (c % 6) ≠ 0
      · rw [if_pos ⟨r, q⟩, if_pos r]
      · rw [if_neg (fun t => r t.1), if_neg r]
    · rw [if_neg q, if_neg (fun t => q t.2)]
  rw [e1]
  unfold Cn
  rw [show ct D = fun c => if c / 6 < c % 6 then E1 D (c / 6) (c % 6) else 0 from funext cE]
  simp [List.range_succ, dE]
  have := sE 1 0
  have := sE 2 0
  have := sE 3 0
  have := sE 4 0
  have := sE 5 0
  have := sE 2 1
  have := sE 3 1
  have := sE 4 1
  have := sE 5 1
  have := sE 3 2
  have := sE 4 2
  have := sE 5 2
  have := sE 4 3
  have := sE 5 3
  have := sE 5 4
  omega
