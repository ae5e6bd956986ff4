/-! smaller nets: who goes next -/
theorem nbs_len {n x : Nat} {D : Nat → Nat → Nat} : (nbs n D x).length ≤ n := by
  have := List.length_filter_le (fun y => decide (D x y ≠ 0)) (List.range n)
  rw [List.length_range] at this
  exact this
theorem f_lowest_yes {σ : Sg} {n u v : Nat} {U D : Nat → Nat → Nat} (h : Sx σ n U D) (hn : n ≤ 6) (hz : Sz n U D) (hu : u < n) (hv : v < n) : ∃ r, f_X3_lowestToGo σ (nI u) (nI v) = some r ∧ ((r = -9 ∧ ∀ x, x < n → cd n D u v x = false) ∨ ∃ x, x < n ∧ r = nI x ∧ cd n D u v x = true ∧ ∀ y, y < x → cd n D u v y = false) := by
  unfold f_X3_lowestToGo
  have key := wl_inv (body := fun q : Int32 => f_X3_lowestToGo_B2 σ (nI u) (nI v) q) (N := n) (I := fun i (q : Int32) => q = nI i ∧ ∀ y, y < i → cd n D u v y = false) (Post := fun b : Unit ⊕ Int32 => (b = .inl () ∧ ∀ x, x < n → cd n D u v x = false) ∨ ∃ x, x < n ∧ b = .inr (nI x) ∧ cd n D u v x = true ∧ ∀ y, y < x → cd n D u v y = false) (fun i q hi hI => ?_) FU 0 (0 : Int32) ⟨rfl, fun y hy => by omega⟩ (Nat.zero_le _) (FU_big (by omega))
  · obtain ⟨b, k1, k2⟩ := key
    rw [k1, Option.bind_some]
    rcases k2 with ⟨rfl, k3⟩ | ⟨x, hx, rfl, k3, k4⟩
    · exact ⟨-9, rfl, Or.inl ⟨rfl, k3⟩⟩
    · exact ⟨nI x, rfl, Or.inr ⟨x, hx, rfl, k3, k4⟩⟩
  · obtain ⟨rfl, hA⟩ := hI
    unfold f_X3_lowestToGo_B2
    rw [h.1]
    by_cases he : i = n
    · subst he
      rw [if_pos (nI_le (Nat.le_refl _) (by omega))]
      exact ⟨_, rfl, Or.inr ⟨_, rfl, Or.inl ⟨rfl, hA⟩⟩⟩
    · have hlt : i < n := by omega
      have hl := nbs_len (n := n) (x := i) (D := D)
      have next : cd n D u v i = false → ∀ y, y < i + 1 → cd n D u v y = false := fun q y hy => by
        by_cases c : y = i
        · rw [c]
          exact q
        · exact hA y (by omega)
      rw [if_neg (nI_ge hlt (by omega)), f_linesAt_yes h hn hz hlt, Option.bind_some]
      by_cases c1 : i = u
      · rw [if_pos (show nI i = nI u by rw [c1]), nI_1, vl_e]
        exact ⟨_, rfl, Or.inl ⟨_, rfl, hlt, rfl, next (by unfold cd; simp [c1])⟩⟩
      · rw [if_neg (show ¬ nI i = nI u by rw [nI_eq (by omega) (by omega)]; exact c1)]
        by_cases c2 : i = v
        · rw [if_pos (show nI i = nI v by rw [c2]), nI_1, vl_e]
          exact ⟨_, rfl, Or.inl ⟨_, rfl, hlt, rfl, next (by unfold cd; simp [c2])⟩⟩
        · rw [if_neg (show ¬ nI i = nI v by rw [nI_eq (by omega) (by omega)]; exact c2)]
          by_cases c3 : (nbs n D i).length = 1
          · rw [if_pos (show nI (nbs n D i).length = 1 by rw [c3]; rfl)]
            exact ⟨_, rfl, Or.inr ⟨_, rfl, Or.inr ⟨i, hlt, rfl, by unfold cd; simp [c1, c2, c3], hA⟩⟩⟩
          · rw [if_neg (show ¬ nI (nbs n D i).length = 1 by rw [il_1, nI_eq (by omega) (by omega)]; exact c3)]
            by_cases c4 : (nbs n D i).length = 2
            · rw [if_pos (show nI (nbs n D i).length = 2 by rw [c4]; rfl)]
              exact ⟨_, rfl, Or.inr ⟨_, rfl, Or.inr ⟨i, hlt, rfl, by unfold cd; simp [c1, c2, c4], hA⟩⟩⟩
            · rw [if_neg (show ¬ nI (nbs n D i).length = 2 by rw [il_2, nI_eq (by omega) (by omega)]; exact c4), nI_1, vl_e]
              exact ⟨_, rfl, Or.inl ⟨_, rfl, hlt, rfl, next (by unfold cd; simp [c3, c4])⟩⟩
theorem f_pick_yes {σ : Sg} {n u v : Nat} {U D : Nat → Nat → Nat} (h : Sy σ n U D) (hn : n ≤ 6) (hz : Sz n U D) (hu : u < n) (hv : v < n) : ∃ x, wl (fun a : Int32 => f_X7_reduced_B138 (nI u) (nI v) σ a) FU (0 : Int32) = some (nI x) ∧ ((x = n ∧ ∀ y, y < n → cd n D u v y = false) ∨ (x < n ∧ cd n D u v x = true ∧ ∀ y, y < x → cd n D u v y = false)) := by
  have key := wl_inv (body := fun q : Int32 => f_X7_reduced_B138 (nI u) (nI v) σ q) (N := n) (I := fun i (q : Int32) => q = nI i ∧ ∀ y, y < i → cd n D u v y = false) (Post := fun b : Int32 => ∃ x, b = nI x ∧ ((x = n ∧ ∀ y, y < n → cd n D u v y = false) ∨ (x < n ∧ cd n D u v x = true ∧ ∀ y, y < x → cd n D u v y = false))) (fun i q hi hI => ?_) FU 0 (0 : Int32) ⟨rfl, fun y hy => by omega⟩ (Nat.zero_le _) (FU_big (by omega))
  · obtain ⟨b, k1, x, rfl, k2⟩ := key
    exact ⟨x, k1, k2⟩
  · obtain ⟨rfl, hA⟩ := hI
    unfold f_X7_reduced_B138
    rw [h.1]
    by_cases he : i = n
    · subst he
      rw [if_pos (nI_le (Nat.le_refl _) (by omega))]
      exact ⟨_, rfl, Or.inr ⟨_, rfl, i, rfl, Or.inl ⟨rfl, hA⟩⟩⟩
    · have hlt : i < n := by omega
      have next : cd n D u v i = false → ∀ y, y < i + 1 → cd n D u v y = false := fun q y hy => by
        by_cases c : y = i
        · rw [c]
          exact q
        · exact hA y (by omega)
      rw [if_neg (nI_ge hlt (by omega))]
      by_cases c1 : i = u
      · rw [if_pos (show nI i = nI u by rw [c1]), nI_1, vl_e]
        exact ⟨_, rfl, Or.inl ⟨_, rfl, hlt, rfl, next (by unfold cd; simp [c1])⟩⟩
      · rw [if_neg (show ¬ nI i = nI u by rw [nI_eq (by omega) (by omega)]; exact c1)]
        by_cases c2 : i = v
        · rw [if_pos (show nI i = nI v by rw [c2]), nI_1, vl_e]
          exact ⟨_, rfl, Or.inl ⟨_, rfl, hlt, rfl, next (by unfold cd; simp [c2])⟩⟩
        · rw [if_neg (show ¬ nI i = nI v by rw [nI_eq (by omega) (by omega)]; exact c2)]
          have n0 : f_X7_neighbour σ (nI i) (0 : Int32) = some (nbI (nbs n D i)[0]?) := f_nb_yes (k := 0) h hn hz hlt (by omega)
          have n2 : f_X7_neighbour σ (nI i) (2 : Int32) = some (nbI (nbs n D i)[2]?) := f_nb_yes (k := 2) h hn hz hlt (by omega)
          have hb : ∀ k y, (nbs n D i)[k]? = some y → y < 6 := fun k y q => by
            have hm : y ∈ nbs n D i := List.mem_of_getElem? q
            unfold nbs at hm
            have := List.mem_range.mp (List.mem_filter.mp hm).1
            omega
          rw [n0, Option.bind_some]
          cases h0 : (nbs n D i)[0]? with
          | none =>
            have hl0 : (nbs n D i).length = 0 := by
              have := List.getElem?_eq_none_iff.mp h0
              omega
            rw [nbI_n, if_pos rfl, nI_1, vl_e]
            exact ⟨_, rfl, Or.inl ⟨_, rfl, hlt, rfl, next (by unfold cd; simp [hl0])⟩⟩
          | some y0 =>
            have hl0 := (List.getElem?_eq_some_iff.mp h0).1
            have hy0 := hb 0 y0 h0
            rw [nbI_s, if_neg (nI_m9 (by omega)), n2, Option.bind_some]
            cases h2 : (nbs n D i)[2]? with
            | none =>
              have hl2 := List.getElem?_eq_none_iff.mp h2
              rw [nbI_n, if_pos rfl]
              have hor : (nbs n D i).length = 1 ∨ (nbs n D i).length = 2 := by omega
              exact ⟨_, rfl, Or.inr ⟨_, rfl, i, rfl, Or.inr ⟨hlt, by unfold cd; simp [c1, c2, hor], hA⟩⟩⟩
            | some y2 =>
              have hl2 := (List.getElem?_eq_some_iff.mp h2).1
              have hy2 := hb 2 y2 h2
              have m1 : ¬ (nbs n D i).length = 1 := by omega
              have m2 : ¬ (nbs n D i).length = 2 := by omega
              rw [nbI_s, if_neg (nI_m9 (by omega)), nI_1, vl_e]
              exact ⟨_, rfl, Or.inl ⟨_, rfl, hlt, rfl, next (by unfold cd; simp [m1, m2])⟩⟩
