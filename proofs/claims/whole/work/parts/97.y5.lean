/-! smaller nets: what lasts -/
theorem sum_upd {f g : Nat → Nat} {x0 : Nat} (h : ∀ x, x ≠ x0 → f x = g x) : ∀ n, x0 < n → ((List.range n).map g).sum + f x0 = ((List.range n).map f).sum + g x0
  | 0, hx => absurd hx (Nat.not_lt_zero _)
  | n + 1, hx => by
    rw [sum_range_succ, sum_range_succ]
    by_cases c : x0 = n
    · subst c
      have e : (List.range x0).map g = (List.range x0).map f := List.map_congr_left (fun y hy => (h y (by have := List.mem_range.mp hy; omega)).symm)
      rw [e]
      omega
    · have := sum_upd h n (by omega)
      have := h n (fun q => c q.symm)
      omega
theorem sum_two {f : Nat → Nat} {n x y : Nat} (hx : x < n) (hy : y < n) (hxy : x ≠ y) : f x + f y ≤ ((List.range n).map f).sum := by
  rcases Nat.lt_or_ge x y with q | q
  · exact sum_ge2 n x y q hy
  · have := sum_ge2 (f := f) n y x (by omega) hx
    omega
theorem sum_three {f : Nat → Nat} {n x y z : Nat} (hx : x < n) (hy : y < n) (hz : z < n) (hxy : x ≠ y) (hxz : x ≠ z) (hyz : y ≠ z) : f x + f y + f z ≤ ((List.range n).map f).sum := by
  have h1 := sum_upd (f := f) (g := fun i => if i = x then 0 else f i) (x0 := x) (fun i hi => by rw [if_neg hi]) n hx
  have h2 := sum_two (f := fun i => if i = x then 0 else f i) hy hz hyz
  rw [if_pos rfl] at h1
  rw [if_neg (fun q => hxy q.symm), if_neg (fun q => hxz q.symm)] at h2
  omega
theorem dd_p2 {n a b z : Nat} {K : Nat → Nat → Nat} (hs : ∀ a b, K a b = K b a) (ha : a < n) (hb : b < n) (hab : a ≠ b) : dd n (p2 K a b z) + 2 * K a b = dd n K + 2 * z := by
  unfold dd
  have row : ∀ i, i ≠ a → i ≠ b → ((List.range n).map (p2 K a b z i)).sum = ((List.range n).map (K i)).sum := fun i h1 h2 => by
    congr 1
    refine List.map_congr_left (fun y _ => ?_)
    unfold p2
    rw [if_neg (by rintro (q | q); exact h1 q.1; exact h2 q.1)]
  have ra := sum_upd (f := K a) (g := p2 K a b z a) (x0 := b) (fun y hy => by unfold p2; rw [if_neg (by rintro (q | q); exact hy q.2; exact hab q.1)]) n hb
  have rb := sum_upd (f := K b) (g := p2 K a b z b) (x0 := a) (fun y hy => by unfold p2; rw [if_neg (by rintro (q | q); exact hab q.1.symm; exact hy q.2)]) n ha
  have za : p2 K a b z a b = z := by unfold p2; rw [if_pos (Or.inl ⟨rfl, rfl⟩)]
  have zb : p2 K a b z b a = z := by unfold p2; rw [if_pos (Or.inr ⟨rfl, rfl⟩)]
  rw [za] at ra
  rw [zb] at rb
  have o1 := sum_upd (f := fun i => ((List.range n).map (K i)).sum) (g := fun i => if i = a then ((List.range n).map (p2 K a b z a)).sum else ((List.range n).map (K i)).sum) (x0 := a) (fun i hi => by rw [if_neg hi]) n ha
  have o2 := sum_upd (f := fun i => if i = a then ((List.range n).map (p2 K a b z a)).sum else ((List.range n).map (K i)).sum) (g := fun i => ((List.range n).map (p2 K a b z i)).sum) (x0 := b) (fun i hi => by
    by_cases c : i = a
    · rw [if_pos c, c]
    · rw [if_neg c, row i c hi]) n hb
  rw [if_pos rfl] at o1
  rw [if_neg (fun q => hab q.symm)] at o2
  have := hs b a
  omega
theorem p2_sym {F : Nat → Nat → Nat} {a b z : Nat} (h : ∀ x y, F x y = F y x) : ∀ x y, p2 F a b z x y = p2 F a b z y x := by
  intro x y
  unfold p2
  by_cases c : (x = a ∧ y = b) ∨ (x = b ∧ y = a)
  · rw [if_pos c, if_pos (by rcases c with q | q; exact Or.inr ⟨q.2, q.1⟩; exact Or.inl ⟨q.2, q.1⟩)]
  · rw [if_neg c, if_neg (by rintro (q | q); exact c (Or.inr ⟨q.2, q.1⟩); exact c (Or.inl ⟨q.2, q.1⟩)), h]
theorem p2_yes {F : Nat → Nat → Nat} {a b z : Nat} : p2 F a b z a b = z := by unfold p2; rw [if_pos (Or.inl ⟨rfl, rfl⟩)]
theorem p2_no {F : Nat → Nat → Nat} {a b z x y : Nat} (h : ¬ ((x = a ∧ y = b) ∨ (x = b ∧ y = a))) : p2 F a b z x y = F x y := by unfold p2; rw [if_neg h]
theorem Iv.sz {n : Nat} {U D K : Nat → Nat → Nat} (h : Iv n U D K) : Sz n U D := fun a b ha hb hd => by
  have h1 := (h.2.2.2.2.1 a b hd).2
  have hk : K a b ≤ 10 := by
    by_cases c : a = b
    · rw [c, h.2.2.2.1] at hd
      exact absurd rfl hd
    · have r1 := sum_ge (f := K a) n b hb
      have r2 := sum_ge (f := K b) n a ha
      have r3 := sum_two (f := fun i => ((List.range n).map (K i)).sum) ha hb c
      have r4 := h.2.2.1 a b
      have r5 := h.2.2.2.2.2
      unfold dd at r5
      omega
  have : 10 ^ K a b ≤ 10 ^ 10 := Nat.pow_le_pow_right (by omega) hk
  omega
theorem three_le {n x a b : Nat} {K : Nat → Nat → Nat} (hs : ∀ a b, K a b = K b a) (h : dd n K ≤ 20) (hx : x < n) (ha : a < n) (hb : b < n) (hxa : x ≠ a) (hxb : x ≠ b) (hab : a ≠ b) : K x a + K x b + K a b ≤ 10 := by
  have r1 := sum_two (f := K x) ha hb hab
  have r2 := sum_two (f := K a) hx hb hxb
  have r3 := sum_two (f := K b) hx ha hxa
  have r4 := sum_three (f := fun i => ((List.range n).map (K i)).sum) hx ha hb hxa hxb hab
  have := hs x a
  have := hs x b
  have := hs a b
  unfold dd at h
  omega
def K2 (K : Nat → Nat → Nat) (x a b : Nat) : Nat → Nat → Nat := p2 (p2 (p2 K a b (K a b + K x a + K x b)) x b 0) x a 0
theorem mul4 {p q r s A B : Nat} (h1 : p + q ≤ A) (h2 : r + s ≤ B) : p * s + r * q + q * s ≤ A * B := by
  have h := Nat.mul_le_mul h1 h2
  rw [Nat.add_mul, Nat.mul_add, Nat.mul_add] at h
  have := Nat.mul_comm r q
  omega
theorem Iv_bx {n x a b : Nat} {U D K : Nat → Nat → Nat} (h : Iv n U D K) (hx : x < n) (hl : nbs n D x = [a, b]) : Bx U D x a b ∧ 0 < Px U D x a b ∧ Px U D x a b + Qx U D x a b ≤ 10 ^ (K a b + K x a + K x b) := by
  obtain ⟨hab, hb, hda, hdb, ho⟩ := nbs_two hl
  obtain ⟨i1, i2, i3, i4, i5, i6⟩ := h
  have hxa : x ≠ a := fun q => hda (by rw [← q]; exact i4 x)
  have hxb : x ≠ b := fun q => hdb (by rw [← q]; exact i4 x)
  have hk := three_le i3 i6 hx (by omega) hb hxa hxb (by omega)
  obtain ⟨ua, sa⟩ := i5 x a hda
  obtain ⟨ub, sb'⟩ := i5 x b hdb
  have s1 : upx U D x a b + lox D x a b ≤ 10 ^ K x a * 10 ^ K x b := by
    unfold upx lox
    exact mul4 sa sb'
  have up0 : 0 < upx U D x a b := by
    unfold upx
    have := Nat.mul_pos ua (Nat.pos_of_ne_zero hdb)
    omega
  have lo0 : 0 < lox D x a b := Nat.mul_pos (Nat.pos_of_ne_zero hda) (Nat.pos_of_ne_zero hdb)
  rw [← Nat.pow_add] at s1
  have s2 : 10 ^ (K x a + K x b) ≤ 10 ^ (K a b + K x a + K x b) := Nat.pow_le_pow_right (by omega) (by omega)
  have s3 : 10 ^ (K a b + K x a + K x b) ≤ 10 ^ 10 := Nat.pow_le_pow_right (by omega) (by omega)
  have key : 0 < Px U D x a b ∧ 0 < Qx U D x a b ∧ Px U D x a b + Qx U D x a b ≤ 10 ^ (K a b + K x a + K x b) := by
    unfold Px Qx
    by_cases c : D a b = 0
    · rw [if_pos c, if_pos c]
      exact ⟨up0, lo0, by omega⟩
    · obtain ⟨uc, sc⟩ := i5 a b c
      rw [if_neg c, if_neg c]
      refine ⟨Nat.mul_pos up0 uc, by have := Nat.mul_pos up0 (Nat.pos_of_ne_zero c); omega, ?_⟩
      have h4 := Nat.mul_le_mul s1 sc
      rw [← Nat.pow_add, show K x a + K x b + K a b = K a b + K x a + K x b by omega, Nat.add_mul, Nat.mul_add, Nat.mul_add] at h4
      omega
  exact ⟨⟨by omega, by omega, by omega, by omega, lo0, key.2.1⟩, key.1, key.2.2⟩
theorem Iv_1 {n x a : Nat} {U D K : Nat → Nat → Nat} (h : Iv n U D K) (hxa : x ≠ a) : Iv n U (D1 D x a) K := by
  obtain ⟨i1, i2, i3, i4, i5, i6⟩ := h
  refine ⟨p2_sym i1, i2, i3, fun c => ?_, fun c d hd => ?_, i6⟩
  · unfold D1
    rw [p2_no (by rintro (q | q) <;> omega)]
    exact i4 c
  · unfold D1 at hd ⊢
    by_cases q : (c = x ∧ d = a) ∨ (c = a ∧ d = x)
    · exact absurd (by unfold p2; rw [if_pos q]) hd
    · rw [p2_no q] at hd ⊢
      exact i5 c d hd
theorem Iv_2 {n x a b : Nat} {U D K : Nat → Nat → Nat} (h : Iv n U D K) (hx : x < n) (hl : nbs n D x = [a, b]) : Iv n (U2 U D x a b) (D2 U D x a b) (K2 K x a b) := by
  obtain ⟨hB, hP, hPQ⟩ := Iv_bx h hx hl
  obtain ⟨hab, hb, hda, hdb, ho⟩ := nbs_two hl
  obtain ⟨i1, i2, i3, i4, i5, i6⟩ := h
  have hxa : x ≠ a := fun q => hda (by rw [← q]; exact i4 x)
  have hxb : x ≠ b := fun q => hdb (by rw [← q]; exact i4 x)
  refine ⟨p2_sym (p2_sym (p2_sym i1)), p2_sym i2, p2_sym (p2_sym (p2_sym i3)), fun c => ?_, fun c d hd => ?_, ?_⟩
  · unfold D2
    rw [p2_no (by rintro (q | q) <;> omega), p2_no (by rintro (q | q) <;> omega), p2_no (by rintro (q | q) <;> omega)]
    exact i4 c
  · unfold D2 at hd ⊢
    unfold U2 K2
    by_cases q1 : (c = x ∧ d = a) ∨ (c = a ∧ d = x)
    · exact absurd (by conv => lhs; unfold p2; rw [if_pos q1]) hd
    · rw [p2_no q1] at hd ⊢
      rw [p2_no q1]
      by_cases q2 : (c = x ∧ d = b) ∨ (c = b ∧ d = x)
      · exact absurd (by conv => lhs; unfold p2; rw [if_pos q2]) hd
      · rw [p2_no q2] at hd ⊢
        rw [p2_no q2]
        by_cases q3 : (c = a ∧ d = b) ∨ (c = b ∧ d = a)
        · unfold p2
          rw [if_pos q3, if_pos q3, if_pos q3]
          have hG : 0 < Gx U D x a b := Nat.gcd_pos_of_pos_left _ hP
          refine ⟨Nat.div_pos (Nat.le_of_dvd hP (Nat.gcd_dvd_left _ _)) hG, ?_⟩
          have := Nat.div_le_self (Px U D x a b) (Gx U D x a b)
          have := Nat.div_le_self (Qx U D x a b) (Gx U D x a b)
          omega
        · rw [p2_no q3] at hd ⊢
          rw [p2_no q3, p2_no q3]
          exact i5 c d hd
  · unfold K2
    have d1 := dd_p2 (z := K a b + K x a + K x b) i3 (show a < n by omega) hb (by omega)
    have d2 := dd_p2 (K := p2 K a b (K a b + K x a + K x b)) (z := 0) (p2_sym i3) hx hb hxb
    have d3 := dd_p2 (K := p2 (p2 K a b (K a b + K x a + K x b)) x b 0) (z := 0) (p2_sym (p2_sym i3)) hx (show a < n by omega) hxa
    rw [p2_no (by rintro (q | q) <;> omega)] at d2
    rw [p2_no (by rintro (q | q) <;> omega), p2_no (by rintro (q | q) <;> omega)] at d3
    omega
