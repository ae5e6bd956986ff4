/-! smaller nets: the end -/
theorem ni_0 {n u v : Nat} {D : Nat → Nat → Nat} (h : ni n D = 0) : ∀ x, x < n → cd n D u v x = false := fun x hx => by
  have h1 := sum_ge (f := fun y => if nbs n D y = [] then 0 else 1) n x hx
  unfold ni at h
  have h2 : nbs n D x = [] := Classical.byContradiction fun q => by
    rw [if_neg q] at h1
    omega
  unfold cd
  rw [h2]
  simp
theorem run_end {n u v : Nat} : ∀ k (s : T3), IvT n s → ni n s.2.1 ≤ k → ∀ x, x < n → cd n (run n u v k s).2.1 u v x = false
  | 0, s, _, h => ni_0 (show ni n s.2.1 = 0 from Nat.le_zero.mp h)
  | k + 1, s, hI, h => by
    intro y hy
    unfold run
    split
    · rename_i hx
      unfold nx at hx
      rw [List.find?_eq_none] at hx
      have := hx y (List.mem_range.mpr hy)
      simpa using this
    · rename_i x hx
      obtain ⟨h1, h2⟩ := nx_is hx
      have hd := ni_down hI h1 h2
      have v1 : IvT n (st1 n s x) := by
        rcases cd_cases h2 with ⟨a, hl⟩ | ⟨a, b, hl⟩
        · rw [st1_one hl]
          obtain ⟨ha, hd', -⟩ := nbs_one hl
          exact Iv_1 hI (fun q => hd' (by rw [← q]; exact hI.2.2.2.1 x))
        · rw [st1_two hl]
          exact Iv_2 hI h1 hl
      exact run_end k (st1 n s x) v1 (by omega) y hy
def JN (n u v : Nat) (D : Nat → Nat → Nat) : Prop := ∀ c : Nat → Bool, (∀ a b, a < n → b < n → D a b ≠ 0 → c a = c b) → c u = c v
theorem cd_ne {n u v x : Nat} {D : Nat → Nat → Nat} (h : cd n D u v x = true) : x ≠ u ∧ x ≠ v := by
  unfold cd at h
  rw [Bool.and_eq_true, Bool.and_eq_true, decide_eq_true_iff, decide_eq_true_iff] at h
  exact h.1
theorem JN_st {n u v x : Nat} {s : T3} (hI : IvT n s) (hJ : JN n u v s.2.1) (hx : x < n) (hc : cd n s.2.1 u v x = true) : JN n u v (st1 n s x).2.1 := by
  obtain ⟨xu, xv⟩ := cd_ne hc
  have i1 := hI.1
  have i4 := hI.2.2.2.1
  intro c hcol
  have go : ∀ a, (∀ p q, p < n → q < n → p ≠ x → q ≠ x → s.2.1 p q ≠ 0 → c p = c q) → (∀ q, q < n → s.2.1 x q ≠ 0 → c q = c a) → c u = c v := fun a h1 h2 => by
    have h3 := hJ (fun y => if y = x then c a else c y) (fun p q hp hq hd => by
      by_cases e1 : p = x
      · subst e1
        have e2 : ¬ q = p := fun r => hd (by rw [r]; exact i4 p)
        rw [if_pos rfl, if_neg e2]
        exact (h2 q hq hd).symm
      · rw [if_neg e1]
        by_cases e2 : q = x
        · subst e2
          rw [if_pos rfl]
          exact h2 p hp (by rw [i1]; exact hd)
        · rw [if_neg e2]
          exact h1 p q hp hq e1 e2 hd)
    rw [if_neg (fun r => xu r.symm), if_neg (fun r => xv r.symm)] at h3
    exact h3
  rcases cd_cases hc with ⟨a, hl⟩ | ⟨a, b, hl⟩
  · obtain ⟨ha, hd, ho⟩ := nbs_one hl
    rw [st1_one hl] at hcol
    refine go a (fun p q hp hq e1 e2 hd' => hcol p q hp hq ?_) (fun q hq hd' => by rw [ho q hq hd'])
    show p2 s.2.1 x a 0 p q ≠ 0
    rw [p2_no (by rintro (r | r); exact e1 r.1; exact e2 r.2)]
    exact hd'
  · obtain ⟨hab, hb, hda, hdb, ho⟩ := nbs_two hl
    have hxa : x ≠ a := fun q => hda (by rw [← q]; exact i4 x)
    have hxb : x ≠ b := fun q => hdb (by rw [← q]; exact i4 x)
    obtain ⟨hB, hP, -⟩ := Iv_bx hI hx hl
    rw [st1_two hl] at hcol
    have hG : 0 < Gx s.1 s.2.1 x a b := Nat.gcd_pos_of_pos_left _ hP
    have hQ : Qx s.1 s.2.1 x a b / Gx s.1 s.2.1 x a b ≠ 0 := by
      have := Nat.div_pos (Nat.le_of_dvd hB.2.2.2.2.2 (Nat.gcd_dvd_right (Px s.1 s.2.1 x a b) _)) hG
      unfold Gx at this ⊢
      omega
    have key : ∀ p q, p ≠ x → q ≠ x → (s.2.1 p q ≠ 0 ∨ (p = a ∧ q = b)) → D2 s.1 s.2.1 x a b p q ≠ 0 := fun p q e1 e2 hor => by
      unfold D2
      rw [p2_no (by rintro (r | r); exact e1 r.1; exact e2 r.2), p2_no (by rintro (r | r); exact e1 r.1; exact e2 r.2)]
      unfold p2
      split
      · exact hQ
      · rename_i c1
        rcases hor with r | r
        · exact r
        · exact absurd (Or.inl r) c1
    have cab : c a = c b := hcol a b (by omega) hb (key a b (fun r => hxa r.symm) (fun r => hxb r.symm) (Or.inr ⟨rfl, rfl⟩))
    refine go a (fun p q hp hq e1 e2 hd' => hcol p q hp hq (key p q e1 e2 (Or.inl hd'))) (fun q hq hd' => ?_)
    rcases ho q hq hd' with r | r
    · rw [r]
    · rw [r, cab]
