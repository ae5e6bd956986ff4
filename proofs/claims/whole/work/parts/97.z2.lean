/-! smaller nets: the reference runs -/
def ni (n : Nat) (D : Nat → Nat → Nat) : Nat := ((List.range n).map (fun y => if nbs n D y = [] then 0 else 1)).sum
theorem nbs_nil {n y : Nat} {D : Nat → Nat → Nat} : nbs n D y = [] ↔ ∀ z, z < n → D y z = 0 := by
  unfold nbs
  rw [List.filter_eq_nil_iff]
  constructor
  · intro h z hz
    have := h z (List.mem_range.mpr hz)
    simpa using this
  · intro h z hz
    have := h z (List.mem_range.mp hz)
    simpa using this
theorem ni_down {n u v x : Nat} {s : T3} (hI : IvT n s) (hx : x < n) (hc : cd n s.2.1 u v x = true) : ni n (st1 n s x).2.1 + 1 ≤ ni n s.2.1 := by
  have i1 := hI.1
  have i4 := hI.2.2.2.1
  have key : (∀ z, z < n → (st1 n s x).2.1 x z = 0) ∧ (∀ y, (∀ z, z < n → s.2.1 y z = 0) → ∀ z, z < n → (st1 n s x).2.1 y z = 0) ∧ nbs n s.2.1 x ≠ [] := by
    rcases cd_cases hc with ⟨a, hl⟩ | ⟨a, b, hl⟩
    · obtain ⟨ha, hd, ho⟩ := nbs_one hl
      rw [st1_one hl]
      refine ⟨fun z hz => ?_, fun y hy z hz => ?_, by rw [hl]; simp⟩
      · show p2 s.2.1 x a 0 x z = 0
        unfold p2
        split
        · rfl
        · rename_i c
          exact Classical.byContradiction fun q => c (Or.inl ⟨rfl, ho z hz q⟩)
      · show p2 s.2.1 x a 0 y z = 0
        unfold p2
        split
        · rfl
        · exact hy z hz
    · obtain ⟨hab, hb, hda, hdb, ho⟩ := nbs_two hl
      have hxa : x ≠ a := fun q => hda (by rw [← q]; exact i4 x)
      have hxb : x ≠ b := fun q => hdb (by rw [← q]; exact i4 x)
      rw [st1_two hl]
      refine ⟨fun z hz => ?_, fun y hy z hz => ?_, by rw [hl]; simp⟩
      · show D2 s.1 s.2.1 x a b x z = 0
        unfold D2 p2
        split
        · rfl
        · rename_i c1
          split
          · rfl
          · rename_i c2
            rw [if_neg (by rintro (q | q); exact hxa q.1; exact hxb q.1)]
            refine Classical.byContradiction fun q => ?_
            rcases ho z hz q with r | r
            · exact c1 (Or.inl ⟨rfl, r⟩)
            · exact c2 (Or.inl ⟨rfl, r⟩)
      · have na : y ≠ a := fun q => hda (by rw [i1, ← q]; exact hy x hx)
        have nb : y ≠ b := fun q => hdb (by rw [i1, ← q]; exact hy x hx)
        show D2 s.1 s.2.1 x a b y z = 0
        unfold D2 p2
        split
        · rfl
        · split
          · rfl
          · rw [if_neg (by rintro (q | q); exact na q.1; exact nb q.1)]
            exact hy z hz
  obtain ⟨k1, k2, k3⟩ := key
  unfold ni
  refine sum_strict (f := fun y => if nbs n (st1 n s x).2.1 y = [] then 0 else 1) (g := fun y => if nbs n s.2.1 y = [] then 0 else 1) n (fun y _ => ?_) x hx ?_
  · by_cases c : nbs n s.2.1 y = []
    · rw [if_pos c, if_pos (nbs_nil.mpr (k2 y (nbs_nil.mp c)))]
      exact Nat.le_refl _
    · rw [if_neg c]
      split <;> omega
  · rw [if_pos (nbs_nil.mpr k1), if_neg k3]
    exact Nat.zero_lt_one
theorem ni_le {n : Nat} {D : Nat → Nat → Nat} : ni n D ≤ n := by
  have := sum_mono (f := fun y => if nbs n D y = [] then 0 else 1) (g := fun _ => 1) n (fun y _ => by split <;> omega)
  rw [sum_ones] at this
  exact this
theorem r_run {σ : Sg} {n u v : Nat} {s0 : T3} (hn : n ≤ 6) (hu : u < n) (hv : v < n) (h : Sy σ n s0.1 s0.2.1) (hV : IvT n s0) : ∃ σ', wl (fun a : Int32 × Sg => f_X7_reduced_B130 (nI u) (nI v) a.1 a.2) FU ((1 : Int32), σ) = some σ' ∧ (FrQ σ σ' ∧ Sy σ' n (run n u v n s0).1 (run n u v n s0).2.1) := by
  refine wl_inv (N := n + 1) (I := fun i (a : Int32 × Sg) => FrQ σ a.2 ∧ ((a.1 = 1 ∧ i ≤ n ∧ ∃ s : T3, Sy a.2 n s.1 s.2.1 ∧ IvT n s ∧ run n u v (n - i) s = run n u v n s0 ∧ ni n s.2.1 + i ≤ n) ∨ (a.1 = 0 ∧ Sy a.2 n (run n u v n s0).1 (run n u v n s0).2.1))) (fun i a hi hI => ?_) FU 0 ((1 : Int32), σ) ⟨Fr.rf, Or.inl ⟨rfl, Nat.zero_le _, s0, h, hV, rfl, ni_le⟩⟩ (Nat.zero_le _) (FU_big (by omega))
  obtain ⟨x, σ1⟩ := a
  obtain ⟨hF, hI⟩ := hI
  dsimp only at hF hI ⊢
  unfold f_X7_reduced_B130
  rcases hI with ⟨rfl, hin, s, hS, hW, hR, hni⟩ | ⟨rfl, hS⟩
  · rw [if_neg ne10]
    obtain ⟨y, y1, y2⟩ := f_pick_yes hS hn hW.sz hu hv
    rw [y1, Option.bind_some, hS.1]
    unfold f_X7_reduced_J203
    rcases y2 with ⟨rfl, r3⟩ | ⟨hy, r3, r4⟩
    · rw [if_pos (nI_le (Nat.le_refl _) (by omega)), if_pos rfl]
      refine ⟨_, rfl, Or.inl ⟨_, rfl, by omega, hF, Or.inr ⟨rfl, ?_⟩⟩⟩
      have e0 : ∀ k, run y u v k s = s := fun k => by
        cases k with
        | zero => rfl
        | succ k =>
          unfold run
          rw [nx_none r3]
      rw [← hR, e0]
      exact hS
    · have hd := ni_down hW hy r3
      have v1 := (show IvT n (st1 n s y) by
        rcases cd_cases r3 with ⟨a, hl⟩ | ⟨a, b, hl⟩
        · rw [st1_one hl]
          obtain ⟨ha, hd', -⟩ := nbs_one hl
          exact Iv_1 hW (fun q => hd' (by rw [← q]; exact hW.2.2.2.1 y))
        · rw [st1_two hl]
          exact Iv_2 hW hy hl)
      obtain ⟨σ2, g1, g2, g3⟩ := goes_yes hW hS hn hy r3
      rw [if_neg (nI_ge hy (by omega)), if_neg ne10, g1, Option.bind_some]
      refine ⟨_, rfl, Or.inl ⟨_, rfl, by omega, hF.tr g2, Or.inl ⟨rfl, by omega, st1 n s y, g3, v1, ?_, by omega⟩⟩⟩
      rw [← hR, show n - i = (n - (i + 1)) + 1 by omega]
      conv => rhs; unfold run
      rw [nx_some hy r3 r4]
  · rw [if_pos rfl]
    exact ⟨_, rfl, Or.inr ⟨_, rfl, hF, hS⟩⟩
