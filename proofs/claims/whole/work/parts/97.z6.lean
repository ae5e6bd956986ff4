/-! smaller nets: one line left is the line of the two -/
theorem JN_run {n u v : Nat} : ∀ k (s : T3), IvT n s → JN n u v s.2.1 → JN n u v (run n u v k s).2.1
  | 0, s, _, h => h
  | k + 1, s, hI, h => by
    unfold run
    split
    · exact h
    · rename_i x hx
      obtain ⟨h1, h2⟩ := nx_is hx
      have v1 : IvT n (st1 n s x) := by
        rcases cd_cases h2 with ⟨a, hl⟩ | ⟨a, b, hl⟩
        · rw [st1_one hl]
          obtain ⟨ha, hd', -⟩ := nbs_one hl
          exact Iv_1 hI (fun q => hd' (by rw [← q]; exact hI.2.2.2.1 x))
        · rw [st1_two hl]
          exact Iv_2 hI h1 hl
      exact JN_run k (st1 n s x) v1 (JN_st hI h h1 h2)
theorem JN_0 {n u v : Nat} {w : Nat → Nat → Nat} (h : CC n (Ln n w)) (hu : u < n) (hv : v < n) : JN n u v (wn n w) := fun c hc => h c (fun e he => by
  have hm := mem_Ln.mp he
  refine hc e.1 e.2.1 (by omega) hm.2.1 ?_
  unfold wn
  rw [if_pos ⟨by omega, hm.2.1⟩, ← hm.2.2.1]
  exact hm.2.2.2) u v hu hv
theorem one_left {n u v : Nat} {D : Nat → Nat → Nat} (hn : n ≤ 6) (huv : u ≠ v) (hs : ∀ a b, D a b = D b a) (h0 : ∀ a, D a a = 0) (hO : Out n D) (hJ : JN n u v D) (hc : ∀ x, x < n → cd n D u v x = false) (h1 : Cn D ≤ 1) : Cn D = 1 ∧ D u v ≠ 0 := by
  have h2 := two_C hn hs h0 hO
  have hex : ∃ a b, a < n ∧ b < n ∧ D a b ≠ 0 := Classical.byContradiction fun q => by
    have := hJ (fun x => decide (x = u)) (fun a b ha hb hd => absurd ⟨a, b, ha, hb, hd⟩ q)
    rw [decide_eq_true rfl, decide_eq_false (fun r => huv r.symm)] at this
    cases this
  obtain ⟨a, b, ha, hb, hd⟩ := hex
  have hab : a ≠ b := fun q => hd (by rw [q]; exact h0 b)
  have la : 1 ≤ (nbs n D a).length := List.length_pos_iff.mpr (fun q => hd (nbs_nil.mp q b hb))
  have lb : 1 ≤ (nbs n D b).length := List.length_pos_iff.mpr (fun q => hd (by rw [hs]; exact nbs_nil.mp q a ha))
  have h3 := sum_two (f := fun x => (nbs n D x).length) ha hb hab
  unfold Sn2 at h2
  have la1 : (nbs n D a).length = 1 := by omega
  have lb1 : (nbs n D b).length = 1 := by omega
  have pick : ∀ x, x < n → (nbs n D x).length = 1 → x = u ∨ x = v := fun x hx hl => Classical.byContradiction fun q => by
    have h4 := hc x hx
    have n1 : x ≠ u := fun r => q (Or.inl r)
    have n2 : x ≠ v := fun r => q (Or.inr r)
    unfold cd at h4
    rw [decide_eq_true n1, decide_eq_true n2, decide_eq_true hl] at h4
    cases h4
  refine ⟨by omega, ?_⟩
  rcases pick a ha la1 with ra | ra <;> rcases pick b hb lb1 with rb | rb
  · exact absurd (ra.trans rb.symm) hab
  · rw [← ra, ← rb]
    exact hd
  · rw [← ra, ← rb, hs]
    exact hd
  · exact absurd (ra.trans rb.symm) hab
