/-! both constructors behind each other: the world -/
def adJ (u v : Nat → Nat) : Nat → Nat := fun c => if c < 45 then u c else v c
set_option maxRecDepth 100000 in
theorem KS_join {dC : Nat → ClassId} {dI : Nat → Nat → Nat} {A : Nat → Prop} {s : State} {cA : Nat → ClassId} {u v : Nat → Nat} {H : Heap} {locs : List Loc} (h : KS dC dI A s (ord6.map (cellAt cA u) ++ ord7.map (cellAt cA v)) H locs) : KS dC dI A s ((ord6 ++ ord7).map (cellAt cA (adJ u v))) H locs := by
  have hP := P_ext (k := 35) (a := u 43) (cB := cA 3) (n := 2) (f := fun i => some (u (15 + 4 * i))) (f' := fun i => some (adJ u v (15 + 4 * i))) h.1 (by rfl) (fun j hj => by rcases (show j = 0 ∨ j = 1 by omega) with rfl | rfl <;> rfl)
  have hD := h.2.1.set (p := 35) (a := u 43) (e := .inl (cA 3, 2, .inr (.inr (.inr (.inr (fun i => some (adJ u v (15 + 4 * i)))))))) (by rfl)
  have hP := P_ext (k := 21) (a := u 29) (cB := cA 4) (n := 5) (f := fun i => if i < 5 then some (u (30 + i)) else none) (f' := fun i => if i < 5 then some (adJ u v (30 + i)) else none) hP (by rfl) (fun j hj => by rw [if_pos hj, if_pos hj]; rcases (show j = 0 ∨ j = 1 ∨ j = 2 ∨ j = 3 ∨ j = 4 by omega) with rfl | rfl | rfl | rfl | rfl <;> rfl)
  have hD := hD.set (p := 21) (a := u 29) (e := .inl (cA 4, 5, .inr (.inr (.inr (.inr (fun i => if i < 5 then some (adJ u v (30 + i)) else none)))))) (by rfl)
  exact ⟨hP, hD, h.2.2⟩
theorem ord_all : ∀ c, c < 56 → c ∈ ord6 ++ ord7 := by decide +kernel
theorem WL_by {dC : Nat → ClassId} {dI : Nat → Nat → Nat} {A : Nat → Prop} {s : State} {cA : Nat → ClassId} {ad : Nat → Nat} {H : Heap} {locs : List Loc} (h : KS dC dI A s ((ord6 ++ ord7).map (cellAt cA ad)) H locs) : KS dC dI A s (WL ad cA σ0) H locs := by
  have at' : ∀ (k : Nat) (q : Nat × va_E), (WL ad cA σ0)[k]? = some q → k < 56 ∧ q = cellAt cA ad k ∧ ∃ j, ((ord6 ++ ord7).map (cellAt cA ad))[j]? = some q ∧ (ord6 ++ ord7)[j]? = some k := fun k q hk => by
    by_cases hl : k < 56
    · rw [WL_at hl] at hk
      cases hk
      obtain ⟨j, hj⟩ := List.getElem?_of_mem (ord_all k hl)
      exact ⟨hl, rfl, j, by rw [List.getElem?_map, hj]; rfl, hj⟩
    · unfold WL at hk
      rw [List.getElem?_eq_none (by simp; omega)] at hk
      cases hk
  refine ⟨fun k q hk => ?_, ⟨fun i j p q hi hj hpq => ?_, fun k q hk => ?_⟩, h.2.2⟩
  · obtain ⟨-, -, j, hj, -⟩ := at' k q hk
    exact h.1 j q hj
  · obtain ⟨-, -, a, ha, ha2⟩ := at' i p hi
    obtain ⟨-, -, d, hd, hd2⟩ := at' j q hj
    have := h.2.1.1 a d p q ha hd hpq
    subst this
    rw [ha2] at hd2
    cases hd2
    rfl
  · obtain ⟨-, -, j, hj, -⟩ := at' k q hk
    exact h.2.1.2 j q hj
theorem KS_ST {dC : Nat → ClassId} {dI : Nat → Nat → Nat} {s : State} {cA : Nat → ClassId} {ad : Nat → Nat} {H : Heap} {locs : List Loc} (h : KS dC dI (fun q : Nat => s.heap.size ≤ q) s (WL ad cA σ0) H locs) : ST dC dI ad cA s σ0 H locs ∧ ∀ k, k < 56 → s.heap.size ≤ ad k :=
  ⟨⟨h.1, ⟨h.2.1.1, fun k q hk => Or.inr (h.2.1.2 k q hk)⟩, h.2.2.1, fun q hq hn => h.2.2.2.1 q hq (fun h9 => hn (Or.inr h9)), fun q hq => Or.inr (h.2.2.2.2 q hq)⟩, fun k hk => h.2.1.2 k _ (WL_at hk)⟩
set_option maxRecDepth 100000 in
/-- the classes and the arrays' classes, as the tables have them -/
theorem law_known {s : State} {b : Nat} (hts : ∀ w ∈ lw_tbl, w.before #[Value.ref b] s = true) : ∃ (dC : Nat → ClassId) (dI : Nat → Nat → Nat) (cA : Nat → ClassId), va_K (dC, dI) vwCl (tyL cA) s ∧ va_Nw NWd s ∧ Os s := by
  have m3 : ∀ w ∈ [Cond.arrayOver (.array .long), Cond.arrayOver (.object "ChanceNets$Net"), NWd], w ∈ lw_tbl := mem_r _ [156, 196, 569] rfl
  have w1 := hts _ (m3 (Cond.arrayOver (.array .long)) (by decide +kernel))
  have w2 := hts _ (m3 (Cond.arrayOver (.object "ChanceNets$Net")) (by decide +kernel))
  have w3 := hts _ (m3 NWd (by decide +kernel))
  obtain ⟨k0, i0, n0⟩ := u_known (C := RX0) (T := TX0) (N := 3) (n := 3) hts inX0 (hts (.instantiable RX0 3) (wsL_i2 _ (by decide +kernel)))
  obtain ⟨k1, i1, n1⟩ := u_known (C := RX1) (T := TX1) (N := 5) (n := 5) hts inX1 (hts (.instantiable RX1 5) (wsL_i1 _ (by decide +kernel)))
  obtain ⟨k2, i2, n2⟩ := u_known (C := RX2) (T := TX2) (N := 4) (n := 4) hts inX2 (hts (.instantiable RX2 4) (wsL_i2 _ (by decide +kernel)))
  obtain ⟨k3, i3, n3⟩ := u_known (C := RX3) (T := TX3) (N := 3) (n := 3) hts inX3 (hts (.instantiable RX3 3) (wsL_i2 _ (by decide +kernel)))
  obtain ⟨k4, i4, n4⟩ := u_known (C := RX4) (T := TX4) (N := 4) (n := 4) hts inX4 (hts (.instantiable RX4 4) (wsL_i1 _ (by decide +kernel)))
  obtain ⟨k5, i5, n5⟩ := u_known (C := RX5) (T := TX5) (N := 2) (n := 2) hts inX5 (hts (.instantiable RX5 2) (wsL_i2 _ (by decide +kernel)))
  obtain ⟨k6, i6, n6⟩ := u_known (C := RX6) (T := TX6) (N := 13) (n := 13) hts inX6 (hts (.instantiable RX6 13) (wsL_i1 _ (by decide +kernel)))
  obtain ⟨k7, i7, n7⟩ := u_known (C := RX7) (T := TX7) (N := 19) (n := 19) hts inX7 (hts (.instantiable RX7 19) (wsL_i1 _ (by decide +kernel)))
  obtain ⟨a0, ka0, cm0, f0, g0, e0⟩ := Cond.arrayClass_spec (hts (.arrayClass .int) (wsL_i3 _ (by decide +kernel)))
  obtain ⟨a1, ka1, cm1, f1, g1, e1⟩ := Cond.arrayClass_spec (hts (.arrayClass .long) (wsL_i1 _ (by decide +kernel)))
  obtain ⟨a2, ka2, cm2, f2, g2, e2⟩ := Cond.arrayClass_spec (hts (.arrayClass .boolean) (wsL_i2 _ (by decide +kernel)))
  obtain ⟨cm3, a3, ka3, r3, -, g3, e3, f3⟩ := Cond.arrayOver_spec w2
  obtain ⟨cm4, a4, ka4, r4, -, g4, e4, f4⟩ := arrayOverA_spec w1
  refine ⟨fun k => match k with | 0 => k0 | 1 => k1 | 2 => k2 | 3 => k3 | 4 => k4 | 5 => k5 | 6 => k6 | _ => k7, fun k => match k with | 0 => i0 | 1 => i1 | 2 => i2 | 3 => i3 | 4 => i4 | 5 => i5 | 6 => i6 | _ => i7, fun k => match k with | 0 => a0 | 1 => a1 | 2 => a2 | 3 => a3 | _ => a4, ⟨fun k q hq => ?_, fun k q hq => ?_⟩, va_Nw.of rfl w3, va_AO.of w2, w1⟩
  · match k, hq with
    | 0, hq => cases hq; exact n0
    | 1, hq => cases hq; exact n1
    | 2, hq => cases hq; exact n2
    | 3, hq => cases hq; exact n3
    | 4, hq => cases hq; exact n4
    | 5, hq => cases hq; exact n5
    | 6, hq => cases hq; exact n6
    | 7, hq => cases hq; exact n7
    | k + 8, hq => simp [vwCl] at hq
  · match k, hq with
    | 0, hq => cases hq; exact ⟨fun n z => ⟨fun k h => (by cases h), ka0, g0, cm0, e0⟩, f0⟩
    | 1, hq => cases hq; exact ⟨fun n z => ⟨fun k h => (by cases h), ka1, g1, cm1, e1⟩, f1⟩
    | 2, hq => cases hq; exact ⟨fun n z => ⟨fun k h => (by cases h), ka2, g2, cm2, e2⟩, f2⟩
    | 3, hq => cases hq; exact ⟨fun n z => ⟨fun k h => (by cases h), ka3, g3, cm3, e3⟩, ka3, cm3, g3, e3, r3, f3⟩
    | 4, hq => cases hq; exact ⟨fun n z => ⟨fun k h => (by cases h), ka4, g4, cm4, e4⟩, f4⟩
    | k + 5, hq => simp at hq
