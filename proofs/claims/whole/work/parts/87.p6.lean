/-! what is done, and undone -/
theorem Past.at {σ σ' : Sg} {n : Nat} : ∀ {H : List (Nat × Nat × Nat)} {w : Nat → Nat → Nat}, (∀ j, j < H.length → gA σ' 25 j = gA σ 25 j ∧ gA σ' 26 j = gA σ 26 j ∧ gA σ' 27 j = gA σ 27 j ∧ ∀ i, i < 31 → gA σ' 46 (31 + 31 * j + i) = gA σ 46 (31 + 31 * j + i)) → Past σ n w H → Past σ' n w H
  | [], _, _, _ => trivial
  | e :: H, w, hj, h => by
    obtain ⟨a1, a2, a3, a4, a5, a6, a7⟩ := h
    obtain ⟨q1, q2, q3, q4⟩ := hj H.length (by simp)
    exact ⟨by rw [q1]; exact a1, by rw [q2]; exact a2, by rw [q3]; exact a3, a4, a5, a6.of a5.2.2.2.2.2 q4, Past.at (fun j h9 => hj j (by simp; omega)) a7⟩
theorem Past.shift {σ σ' : Sg} {n : Nat} : ∀ {H : List (Nat × Nat × Nat)} {w : Nat → Nat → Nat}, (∀ j, j + 1 < H.length → gA σ' 25 j = gA σ 25 (j + 1) ∧ gA σ' 26 j = gA σ 26 (j + 1) ∧ gA σ' 27 j = gA σ 27 (j + 1) ∧ ∀ i, i < 31 → gA σ' 46 (31 + 31 * j + i) = gA σ 46 (31 + 31 * (j + 1) + i)) → Past σ n w H → Past σ' n w H.dropLast
  | [], _, _, _ => trivial
  | [_], _, _, _ => trivial
  | e :: f :: H, w, hj, h => by
    obtain ⟨a1, a2, a3, a4, a5, a6, a7⟩ := h
    have hl : ((f :: H).dropLast).length = H.length := by simp
    obtain ⟨q1, q2, q3, q4⟩ := hj H.length (by simp)
    show Past σ' n w (e :: (f :: H).dropLast)
    unfold Past
    rw [hl]
    simp only [List.length_cons] at a1 a2 a3 a6
    exact ⟨by rw [q1]; exact a1, by rw [q2]; exact a2, by rw [q3]; exact a3, a4, a5, a6.of a5.2.2.2.2.2 q4, Past.shift (fun j h9 => hj j (by simp at h9 ⊢; omega)) a7⟩
def NotedC (σ σ' : Sg) (c u v a : Nat) : Prop := (c < 12 → ∀ j, gA σ' 25 j = (if j = c then nI u else gA σ 25 j) ∧ gA σ' 26 j = (if j = c then nI v else gA σ 26 j) ∧ gA σ' 27 j = (if j = c then nI a else gA σ 27 j)) ∧ (c = 12 → ∀ j, j < 12 → gA σ' 25 j = (if j = 11 then nI u else gA σ 25 (j + 1)) ∧ gA σ' 26 j = (if j = 11 then nI v else gA σ 26 (j + 1)) ∧ gA σ' 27 j = (if j = 11 then nI a else gA σ 27 (j + 1)))
def NotedM (σ σ' : Sg) (c : Nat) : Prop := (∀ j, 403 ≤ j → gA σ' 46 j = gA σ 46 j) ∧ (c < 12 → (∀ j, 31 ≤ j → j < 31 + 31 * c → gA σ' 46 j = gA σ 46 j) ∧ ∀ i, i < 31 → gA σ' 46 (31 + 31 * c + i) = gA σ 46 i) ∧ (c = 12 → (∀ j, 31 ≤ j → j < 372 → gA σ' 46 j = gA σ 46 (j + 31)) ∧ ∀ i, i < 31 → gA σ' 46 (372 + i) = gA σ 46 i)
theorem inv_noted {σ σ' : Sg} {n c len u v a : Nat} {w : Nat → Nat → Nat} {H : List (Nat × Nat × Nat)} (h : InvP σ n w H c len) (hF : Fr [5, 14, 18] [4, 5, 6, 25, 26, 27, 46] [] σ σ') (hw' : wok n (w2 w u v a)) (hu : u < n) (hv : v < n) (huv : u ≠ v) (hN : NetAt σ' 0 n (w2 w u v a)) (hR : RowAt σ' 0 (Ln n (w2 w u v a))) (h14 : gI σ' 14 = nI (if H.length = 12 then 12 else H.length + 1)) (h18 : gI σ' 18 = nI (if H.length = 12 then 12 else H.length + 1)) (hC : NotedC σ σ' H.length u v (w u v)) (hM : NotedM σ σ' H.length) : Inv σ' := by
  obtain ⟨⟨cw, cn, c17, cr⟩, hH, hI, hT, hS, hWR⟩ := h
  have hback := w2_back (a := a) (u := u) (v := v) cw.2.2.1
  have hl10 := cw.2.2.2.2.2
  have rest : ∀ H', Hst σ' n (w2 w u v a) H' → Inv σ' := by
    intro H' hH'
    refine ⟨n, w2 w u v a, H', c, len, ⟨hw', hN, by rw [hF.1 17 (by simp)]; exact c17, hR⟩, hH', ⟨?_, ?_⟩, ?_, ?_, hWR.cg hF.2.2.2⟩
    · exact hI.1.cg (by rw [hF.2.1 44 (by simp)]) (by rw [hF.2.1 47 (by simp)]) (fun w q => q.cg (hF.1 10 (by simp)) (hF.1 11 (by simp)) (hF.2.1 16 (by simp)) (hF.2.1 17 (by simp)) (hF.2.1 18 (by simp))) (fun L h9 q => q.keep h9 (fun j h1 _ => hM.1 j (by omega)))
    · exact hI.2.cg (by rw [hF.2.1 44 (by simp)]) (by rw [hF.2.1 47 (by simp)]) (fun w q => q.cg (hF.1 12 (by simp)) (hF.1 13 (by simp)) (hF.2.1 20 (by simp)) (hF.2.1 21 (by simp)) (hF.2.1 22 (by simp))) (fun L h9 q => q.keep h9 (fun j h1 _ => hM.1 j (by omega)))
    · unfold Txt
      rw [hF.1 1 (by simp), hF.1 19 (by simp), hF.2.1 2 (by simp), hF.2.1 48 (by simp)]
      exact hT
    · unfold Sn
      rw [hF.1 0 (by simp), hF.1 20 (by simp), hF.2.2.1 42 (by simp), hF.2.2.1 49 (by simp)]
      exact hS
  by_cases c12 : H.length = 12
  · refine rest ((u, v, w u v) :: H.dropLast) ?_
    have hd : (H.dropLast).length = 11 := by rw [List.length_dropLast]; omega
    rw [if_pos c12] at h14 h18
    refine ⟨by simp [hd], by rw [h14, List.length_cons, hd], by rw [h18, List.length_cons, hd], ?_⟩
    unfold Past
    rw [hd]
    dsimp only
    rw [hback]
    have q := (hC.2 c12) 11 (by omega)
    refine ⟨q.1, q.2.1, q.2.2, ⟨hu, hv, huv⟩, cw, cr.of hl10 (fun i hi => ?_), Past.shift (fun j hj => ?_) hH.2.2.2⟩
    · rw [show 31 + 31 * 11 + i = 372 + i by omega, (hM.2.2 c12).2 i hi, Nat.zero_add]
    · have q2 := (hC.2 c12) j (by omega)
      rw [if_neg (by omega), if_neg (by omega), if_neg (by omega)] at q2
      refine ⟨q2.1, q2.2.1, q2.2.2, fun i hi => ?_⟩
      rw [(hM.2.2 c12).1 _ (by omega) (by omega), show 31 + 31 * j + i + 31 = 31 + 31 * (j + 1) + i by omega]
  · have hlt : H.length < 12 := by have := hH.1; omega
    refine rest ((u, v, w u v) :: H) ?_
    rw [if_neg c12] at h14 h18
    refine ⟨by simp; omega, by rw [h14, List.length_cons], by rw [h18, List.length_cons], ?_⟩
    unfold Past
    dsimp only
    rw [hback]
    have q := (hC.1 hlt) H.length
    rw [if_pos rfl, if_pos rfl, if_pos rfl] at q
    refine ⟨q.1, q.2.1, q.2.2, ⟨hu, hv, huv⟩, cw, cr.of hl10 (fun i hi => ?_), Past.at (fun j hj => ?_) hH.2.2.2⟩
    · rw [(hM.2.1 hlt).2 i hi, Nat.zero_add]
    · have q2 := (hC.1 hlt) j
      rw [if_neg (by omega), if_neg (by omega), if_neg (by omega)] at q2
      exact ⟨q2.1, q2.2.1, q2.2.2, fun i hi => (hM.2.1 hlt).1 _ (by omega) (by omega)⟩
/-- the class's change -/
theorem f_change_yes {σ : Sg} {n c u v a : Nat} {w : Nat → Nat → Nat} (hw : wok n w) (hN : NetAt σ 0 n w) (hu : u < n) (hv : v < n) (huv : u ≠ v) (hw' : wok n (w2 w u v a)) (h14 : gI σ 14 = nI c) (hc : c ≤ 12) : ∃ σ', f_X6_change σ (nI u) (nI v) (nI a) = some σ' ∧ Fr [5, 14] [4, 5, 6, 25, 26, 27] [] σ σ' ∧ NetAt σ' 0 n (w2 w u v a) ∧ gI σ' 14 = nI (if c = 12 then 12 else c + 1) ∧ NotedC σ σ' c u v (w u v) := by
  unfold f_X6_change
  rw [f_widthAt_yes hN hw.2.1 hu hv, Option.bind_some]
  obtain ⟨σ1, h1, h2, h3, h4, h5⟩ := f_pnotes_yes (u := u) (v := v) (a := w u v) h14 hc
  rw [h1, Option.bind_some]
  obtain ⟨σ2, g1, g2, g3⟩ := f_put_yes (σ := σ1) (k := 0) (a := a) hw.2.1 ⟨by rw [h2.1 _ (by simp)]; exact hN.1, fun x y hx hy => by rw [h2.2.1 _ (by simp)]; exact hN.2.2.1 x y hx hy⟩ hu hv huv hw'
  rw [g1, Option.bind_some]
  have f1 := Fr.mono (I' := [5, 14]) (A' := [4, 5, 6, 25, 26, 27]) (J' := []) h2 (by simp) (by simp) (by simp)
  have f2 := Fr.mono (I' := [5, 14]) (A' := [4, 5, 6, 25, 26, 27]) (J' := []) g2 (by simp) (by simp) (by simp)
  refine ⟨σ2, rfl, f1.tr f2, g3, by rw [g2.1 _ (by simp)]; exact h3, ?_⟩
  unfold NotedC
  rw [g2.2.1 25 (by simp), g2.2.1 26 (by simp), g2.2.1 27 (by simp)]
  exact ⟨h4, h5⟩
theorem nodes_cases {n : Nat} (hn : n ≤ 6) (x y : Int32) : (x < 0 ∨ nI n ≤ x) ∨ (y < 0 ∨ nI n ≤ y) ∨ ∃ u v, u < n ∧ v < n ∧ x = nI u ∧ y = nI v := by
  rcases node_cases hn x with h | ⟨u, hu, rfl⟩
  · exact Or.inl h
  · rcases node_cases hn y with h | ⟨v, hv, rfl⟩
    · exact Or.inr (Or.inl h)
    · exact Or.inr (Or.inr ⟨u, v, hu, hv, rfl, rfl⟩)
theorem f_areTwo_no1 {σ : Sg} {n : Nat} {x y : Int32} (h : gI σ 4 = nI n) (hx : x < 0 ∨ nI n ≤ x) : f_X6_areTwoNodes σ x y = some 0 := by
  unfold f_X6_areTwoNodes
  rw [f_hasNode_no (k := 0) h hx]
  rfl
theorem f_areTwo_no2 {σ : Sg} {n : Nat} {x y : Int32} (h : gI σ 4 = nI n) (hn : n ≤ 6) (hy : y < 0 ∨ nI n ≤ y) : f_X6_areTwoNodes σ x y = some 0 := by
  rcases node_cases hn x with hx | ⟨u, hu, rfl⟩
  · exact f_areTwo_no1 h hx
  · unfold f_X6_areTwoNodes
    rw [f_hasNode_yes (k := 0) h hn hu, Option.bind_some, if_neg ne10, f_hasNode_no (k := 0) h hy]
    rfl
theorem f_areTwo_yes {σ : Sg} {n u v : Nat} (h : gI σ 4 = nI n) (hn : n ≤ 6) (hu : u < n) (hv : v < n) : f_X6_areTwoNodes σ (nI u) (nI v) = if u = v then some 0 else some 1 := by
  unfold f_X6_areTwoNodes
  rw [f_hasNode_yes (k := 0) h hn hu, Option.bind_some, if_neg ne10, f_hasNode_yes (k := 0) h hn hv, Option.bind_some, if_neg ne10]
  by_cases c : u = v
  · rw [if_pos c, if_pos (by rw [c])]
  · rw [if_neg c, if_neg (by rw [nI_eq (by omega) (by omega)]; exact c)]
theorem f_isWidth_i (x : Int32) : f_X6_isWidth x = if x < 1 ∨ 9 < x then some 0 else some 1 := by
  unfold f_X6_isWidth
  by_cases h1 : x < 1
  · rw [if_pos h1, if_pos (Or.inl h1)]
  · rw [if_neg h1]
    by_cases h2 : 9 < x
    · rw [if_pos h2, if_pos (Or.inr h2)]
    · rw [if_neg h2, if_neg (by rintro (q | q) <;> contradiction)]
theorem f_in_w (x : Int32) : f_X7_in x.toInt64 (1 : Int64) (9 : Int64) = if x < 1 ∨ 9 < x then some 0 else some 1 := by
  rw [show (1 : Int64) = (1 : Int32).toInt64 from rfl, show (9 : Int64) = (9 : Int32).toInt64 from rfl, f_in_i]
theorem width_of {x : Int32} (h : ¬ (x < 1 ∨ 9 < x)) : ∃ a, 1 ≤ a ∧ a ≤ 9 ∧ x = nI a := by
  have h1 : ¬ x < 1 := fun q => h (Or.inl q)
  have h2 : ¬ 9 < x := fun q => h (Or.inr q)
  have h3 : ¬ x < 0 := fun q => h1 (Int32.lt_of_lt_of_le q (by decide))
  obtain ⟨j, hj, rfl⟩ := nI_of2 (M := 9) (n := 9) rfl h3 (Int32.not_lt.mp h2)
  refine ⟨j, ?_, hj, rfl⟩
  rcases Nat.eq_zero_or_pos j with q | q
  · subst q
    exact absurd (show nI 0 < 1 by decide) h1
  · exact q
theorem Ln_b {n : Nat} {w : Nat → Nat → Nat} (hn : n ≤ 6) : ∀ e ∈ Ln n w, e.1 < 6 ∧ e.2.1 < 6 := fun e he => by
  have := mem_Ln.mp he
  omega
theorem wmm {w : Nat → Nat → Nat} (h : ∀ x y, w x y = w y x) (u v : Nat) : w (min u v) (max u v) = w u v := by
  by_cases c : u ≤ v
  · rw [show min u v = u by omega, show max u v = v by omega]
  · rw [show min u v = v by omega, show max u v = u by omega, h]
theorem f_lineOf_w {σ : Sg} {r n u v : Nat} {w : Nat → Nat → Nat} (hw : wok n w) (hr : r + 31 ≤ 496) (h : RowAt σ r (Ln n w)) (hu : u < n) (hv : v < n) (huv : u ≠ v) : (w u v = 0 ∧ f_X7_lineOf σ (nI r) (nI u) (nI v) = some (-9)) ∨ (w u v ≠ 0 ∧ ∃ i, (Ln n w)[i]? = some (min u v, max u v, w u v) ∧ f_X7_lineOf σ (nI r) (nI u) (nI v) = some (nI i)) := by
  have hn := hw.2.1
  obtain ⟨x, h1, h2⟩ := f_lineOf_yes (u := u) (v := v) hr h hw.2.2.2.2.2 (Ln_b hn) (by omega) (by omega)
  have hmm := wmm hw.2.2.1 u v
  rcases h2 with ⟨rfl, h3⟩ | ⟨i, e, h3, h4, h5, rfl⟩
  · refine Or.inl ⟨?_, h1⟩
    refine Classical.byContradiction fun c => ?_
    exact h3 (min u v, max u v, w u v) (mem_Ln.mpr ⟨by dsimp only; omega, by dsimp only; omega, by dsimp only; exact hmm.symm, c⟩) ⟨rfl, rfl⟩
  · have hm := mem_Ln.mp (List.mem_of_getElem? h3)
    obtain ⟨x, y, z⟩ := e
    dsimp only at h4 h5 hm
    subst h4
    subst h5
    rw [hmm] at hm
    refine Or.inr ⟨by omega, i, by rw [h3, hm.2.2.1], h1⟩
theorem nI_m9 {i : Nat} (h : i < 2 ^ 31) : ¬ nI i = -9 := fun q => by
  have h1 := congrArg Int32.toInt q
  rw [nI_toInt h] at h1
  have : ((-9 : Int32)).toInt = -9 := rfl
  omega
