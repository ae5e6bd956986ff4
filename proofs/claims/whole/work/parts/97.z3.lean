/-! smaller nets: nothing outside; lines left -/
def Out (n : Nat) (D : Nat → Nat → Nat) : Prop := ∀ a b, (n ≤ a ∨ n ≤ b) → D a b = 0
theorem Out_p2 {n a b z : Nat} {D : Nat → Nat → Nat} (h : Out n D) (ha : a < n) (hb : b < n) : Out n (p2 D a b z) := fun x y hxy => by
  rw [p2_no (by rintro (q | q) <;> omega)]
  exact h x y hxy
theorem Out_st {n u v x : Nat} {s : T3} (h : Out n s.2.1) (hx : x < n) (hc : cd n s.2.1 u v x = true) : Out n (st1 n s x).2.1 := by
  rcases cd_cases hc with ⟨a, hl⟩ | ⟨a, b, hl⟩
  · obtain ⟨ha, -, -⟩ := nbs_one hl
    rw [st1_one hl]
    exact Out_p2 h hx ha
  · obtain ⟨hab, hb, -, -, -⟩ := nbs_two hl
    rw [st1_two hl]
    exact Out_p2 (Out_p2 (Out_p2 h (by omega) hb) hx hb) hx (by omega)
theorem nx_is {n u v x : Nat} {D : Nat → Nat → Nat} (h : nx n D u v = some x) : x < n ∧ cd n D u v x = true := by
  unfold nx at h
  exact ⟨List.mem_range.mp (List.mem_of_find?_eq_some h), List.find?_some h⟩
theorem Out_run {n u v : Nat} : ∀ k (s : T3), Out n s.2.1 → Out n (run n u v k s).2.1
  | 0, s, h => h
  | k + 1, s, h => by
    unfold run
    split
    · exact h
    · rename_i x hx
      obtain ⟨h1, h2⟩ := nx_is hx
      exact Out_run k (st1 n s x) (Out_st h h1 h2)
def Sn2 (n : Nat) (D : Nat → Nat → Nat) : Nat := ((List.range n).map (fun x => (nbs n D x).length)).sum
theorem half : ∀ a, a < 37 → nI a / (2 : Int32) = nI (a / 2) := by decide +kernel
theorem f_left_yes {σ : Sg} {n : Nat} {U D : Nat → Nat → Nat} (h : Sx σ n U D) (hn : n ≤ 6) (hz : Sz n U D) : f_X3_linesLeft σ = some (nI (Sn2 n D / 2)) := by
  have hb := sum_bd (f := fun x => (nbs n D x).length) (B := 6) n (fun i _ => by have := nbs_len (n := n) (x := i) (D := D); omega)
  unfold f_X3_linesLeft
  have key := wl_run (body := fun a : Int32 × Int32 => f_X3_linesLeft_B4 σ a.1 a.2) (fun i => (nI (((List.range i).map (fun x => (nbs n D x).length)).sum), nI i)) n (b := nI (Sn2 n D)) (fun i hi => ?_) ?_ FU (FU_big (by omega))
  · rw [show ((0 : Int32), (0 : Int32)) = (nI (((List.range 0).map (fun x => (nbs n D x).length)).sum), nI 0) from rfl, key, Option.bind_some, half]
    unfold Sn2
    omega
  · dsimp only
    unfold f_X3_linesLeft_B4
    rw [h.1, if_neg (nI_ge hi (by omega)), f_linesAt_yes h hn hz hi, Option.bind_some, nI_add, vl_e, nI_1, vl_e, sum_range_succ]
  · dsimp only
    unfold f_X3_linesLeft_B4
    rw [h.1, if_pos (nI_le (Nat.le_refl _) (by omega))]
    rfl
