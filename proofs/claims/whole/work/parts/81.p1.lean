/-! the class's nets -/
def NetAt (σ : Sg) (k n : Nat) (w : Nat → Nat → Nat) : Prop := gI σ (4 + 2 * k) = nI n ∧ gI σ (5 + 2 * k) = nI (Ln n w).length ∧ (∀ u v, u < n → v < n → gA σ (4 + 4 * k) (u * 6 + v) = nI (w u v)) ∧ ∀ i e, (Ln n w)[i]? = some e → gA σ (5 + 4 * k) i = nI e.1 ∧ gA σ (6 + 4 * k) i = nI e.2.1
/-- a number that is a node, or not -/
theorem node_cases {n : Nat} (hn : n ≤ 6) (x : Int32) : (x < 0 ∨ nI n ≤ x) ∨ ∃ u, u < n ∧ x = nI u := by
  rcases pk_ix x (n := n) (by omega) with h | h | ⟨j, h1, h2⟩
  · exact Or.inl (Or.inl h)
  · exact Or.inl (Or.inr h)
  · exact Or.inr ⟨j, h1, h2⟩
theorem f_hasNode_no {σ : Sg} {k n : Nat} {x : Int32} (h : gI σ (4 + 2 * k) = nI n) (hx : x < 0 ∨ nI n ≤ x) : f_X1_hasNode σ k x = some 0 := by
  unfold f_X1_hasNode
  rw [h]
  rcases hx with q | q
  · rw [if_pos q]
  · by_cases h0 : x < 0
    · rw [if_pos h0]
    · rw [if_neg h0, if_pos q]
theorem f_hasNode_yes {σ : Sg} {k n u : Nat} (h : gI σ (4 + 2 * k) = nI n) (hn : n ≤ 6) (hu : u < n) : f_X1_hasNode σ k (nI u) = some 1 := by
  unfold f_X1_hasNode
  rw [h, if_neg (nI_pos (by omega)), if_neg (nI_ge hu (by omega))]
theorem f_hasLine_no {σ : Sg} {k m : Nat} {x : Int32} (h : gI σ (5 + 2 * k) = nI m) (hx : x < 0 ∨ nI m ≤ x) : f_X1_hasLine σ k x = some 0 := by
  unfold f_X1_hasLine
  rw [h]
  rcases hx with q | q
  · rw [if_pos q]
  · by_cases h0 : x < 0
    · rw [if_pos h0]
    · rw [if_neg h0, if_pos q]
theorem f_hasLine_yes {σ : Sg} {k m u : Nat} (h : gI σ (5 + 2 * k) = nI m) (hn : m ≤ 10) (hu : u < m) : f_X1_hasLine σ k (nI u) = some 1 := by
  unfold f_X1_hasLine
  rw [h, if_neg (nI_pos (by omega)), if_neg (nI_ge hu (by omega))]
theorem ne10 : ¬ (1 : Int32) = 0 := by decide
theorem ix6 (u v : Nat) : nI u * (6 : Int32) + nI v = nI (u * 6 + v) := by rw [il_6, pk_mul, nI_add]
theorem f_widthAt_yes {σ : Sg} {k n u v : Nat} {w : Nat → Nat → Nat} (h : NetAt σ k n w) (hn : n ≤ 6) (hu : u < n) (hv : v < n) : f_X1_widthAt σ k (nI u) (nI v) = some (nI (w u v)) := by
  unfold f_X1_widthAt
  rw [f_hasNode_yes h.1 hn hu, Option.bind_some, if_neg ne10, f_hasNode_yes h.1 hn hv, Option.bind_some, if_neg ne10, ix6, gd_h (okI_nI (by omega) (by omega)), nI_clamp (by omega), h.2.2.1 u v hu hv]
theorem f_lowOf_yes {σ : Sg} {k n i : Nat} {w : Nat → Nat → Nat} {e : Nat × Nat × Nat} (h : NetAt σ k n w) (hl : (Ln n w).length ≤ 10) (hi : (Ln n w)[i]? = some e) : f_X1_lowOf σ k (nI i) = some (nI e.1) := by
  have hlt : i < (Ln n w).length := (List.getElem?_eq_some_iff.mp hi).1
  unfold f_X1_lowOf
  rw [f_hasLine_yes h.2.1 hl hlt, Option.bind_some, if_neg ne10, gd_h (okI_nI (by omega) (by omega)), nI_clamp (by omega), (h.2.2.2 i e hi).1]
theorem f_highOf_yes {σ : Sg} {k n i : Nat} {w : Nat → Nat → Nat} {e : Nat × Nat × Nat} (h : NetAt σ k n w) (hl : (Ln n w).length ≤ 10) (hi : (Ln n w)[i]? = some e) : f_X1_highOf σ k (nI i) = some (nI e.2.1) := by
  have hlt : i < (Ln n w).length := (List.getElem?_eq_some_iff.mp hi).1
  unfold f_X1_highOf
  rw [f_hasLine_yes h.2.1 hl hlt, Option.bind_some, if_neg ne10, gd_h (okI_nI (by omega) (by omega)), nI_clamp (by omega), (h.2.2.2 i e hi).2]
theorem f_widthOf_yes {σ : Sg} {k n i : Nat} {w : Nat → Nat → Nat} {e : Nat × Nat × Nat} (h : NetAt σ k n w) (hw : wok n w) (hi : (Ln n w)[i]? = some e) : f_X1_widthOf σ k (nI i) = some (nI e.2.2) := by
  have hm := mem_Ln.mp (List.mem_of_getElem? hi)
  unfold f_X1_widthOf
  rw [f_lowOf_yes h hw.2.2.2.2.2 hi, Option.bind_some, f_highOf_yes h hw.2.2.2.2.2 hi, Option.bind_some, f_widthAt_yes h hw.2.1 (by omega) hm.2.1, Option.bind_some, hm.2.2.1]
/-- degree -/
def dg (n : Nat) (w : Nat → Nat → Nat) (u : Nat) : Nat := ((List.range n).map (w u)).sum
theorem sum_range_succ (f : Nat → Nat) (i : Nat) : ((List.range (i + 1)).map f).sum = ((List.range i).map f).sum + f i := by
  rw [List.range_succ, List.map_append, List.sum_append]
  simp
theorem f_degree_yes {σ : Sg} {k n u : Nat} {w : Nat → Nat → Nat} (h : NetAt σ k n w) (hn : n ≤ 6) (hu : u < n) : f_X1_degree σ k (nI u) = some (nI (dg n w u)) := by
  unfold f_X1_degree
  rw [f_hasNode_yes h.1 hn hu, Option.bind_some, if_neg ne10]
  have key := wl_run (body := fun a : Int32 × Int32 => f_X1_degree_B14 σ k (nI u) a.1 a.2) (fun i => (nI (((List.range i).map (w u)).sum), nI i)) n (b := nI (dg n w u)) (fun i hi => ?_) ?_ FU (FU_big (by omega))
  · rw [show ((0 : Int32), (0 : Int32)) = (nI (((List.range 0).map (w u)).sum), nI 0) from rfl, key]
    rfl
  · dsimp only
    unfold f_X1_degree_B14
    rw [h.1, if_neg (nI_ge hi (by omega)), ix6, gd_h (okI_nI (by omega) (by omega)), nI_clamp (by omega), h.2.2.1 u i hu hi, vl_e, vl_e, nI_add, nI_1, ← sum_range_succ]
  · dsimp only
    unfold f_X1_degree_B14
    rw [h.1, if_pos (nI_le (Nat.le_refl _) (by omega))]
    rfl
/-- whole -/
def whl (L : List (Nat × Nat × Nat)) : Nat := (L.map (fun e => e.2.2)).sum
theorem sum_take_succ (f : (Nat × Nat × Nat) → Nat) (L : List (Nat × Nat × Nat)) (i : Nat) (e : Nat × Nat × Nat) (h : L[i]? = some e) : ((L.take (i + 1)).map f).sum = ((L.take i).map f).sum + f e := by
  rw [List.take_succ, h, List.map_append, List.sum_append]
  simp
theorem f_whole_yes {σ : Sg} {k n : Nat} {w : Nat → Nat → Nat} (h : NetAt σ k n w) (hw : wok n w) : f_X1_whole σ k = some (nI (whl (Ln n w))) := by
  unfold f_X1_whole
  have hlen := hw.2.2.2.2.2
  have key := wl_run (body := fun a : Int32 × Int32 => f_X1_whole_B4 σ k a.1 a.2) (fun i => (nI ((((Ln n w).take i).map (fun e => e.2.2)).sum), nI i)) (Ln n w).length (b := nI (whl (Ln n w))) (fun i hi => ?_) ?_ FU (FU_big (by omega))
  · rw [show ((0 : Int32), (0 : Int32)) = (nI ((((Ln n w).take 0).map (fun e => e.2.2)).sum), nI 0) from rfl, key]
    rfl
  · dsimp only
    unfold f_X1_whole_B4
    have he : (Ln n w)[i]? = some (Ln n w)[i] := List.getElem?_eq_getElem hi
    rw [h.2.1, if_neg (nI_ge hi (by omega)), f_widthOf_yes h hw he, Option.bind_some, vl_e, vl_e, nI_add, nI_1, ← sum_take_succ _ _ _ _ he]
  · dsimp only
    unfold f_X1_whole_B4
    rw [h.2.1, if_pos (nI_le (Nat.le_refl _) (by omega)), List.take_length]
    rfl
/-- the lines are numbered anew -/
def Mat (σ : Sg) (k n : Nat) (w : Nat → Nat → Nat) : Prop := gI σ (4 + 2 * k) = nI n ∧ ∀ u v, u < n → v < n → gA σ (4 + 4 * k) (u * 6 + v) = nI (w u v)
def Held (σ : Sg) (k : Nat) (L : List (Nat × Nat × Nat)) : Prop := gI σ (5 + 2 * k) = nI L.length ∧ ∀ i e, L[i]? = some e → gA σ (5 + 4 * k) i = nI e.1 ∧ gA σ (6 + 4 * k) i = nI e.2.1
abbrev FrN (k : Nat) (σ σ' : Sg) : Prop := Fr [5 + 2 * k] [5 + 4 * k, 6 + 4 * k] [] σ σ'
theorem FrN.mat {σ σ' : Sg} {k n : Nat} {w : Nat → Nat → Nat} (h : FrN k σ σ') (hm : Mat σ k n w) : Mat σ' k n w := ⟨by rw [h.1 _ (fun q => by have := List.mem_singleton.mp q; omega)]; exact hm.1, fun u v hu hv => by rw [h.2.1 _ (fun q => by simp only [List.mem_cons, List.not_mem_nil, or_false] at q; omega)]; exact hm.2 u v hu hv⟩
/-- one pair more -/
theorem nl_step {σ : Sg} {k n u v : Nat} {w : Nat → Nat → Nat} {L : List (Nat × Nat × Nat)} (hn : n ≤ 6) (h9 : ∀ u v, w u v ≤ 9) (hm : Mat σ k n w) (hh : Held σ k L) (hu : u < v) (hv : v < n) (hl : (L ++ (lf w (u, v)).toList).length ≤ 10) :
    ∃ σ', f_X1_numberLines_B19 k (nI u) (nI v) σ = some (.inl (nI (v + 1), σ')) ∧ FrN k σ σ' ∧ Held σ' k (L ++ (lf w (u, v)).toList) := by
  unfold f_X1_numberLines_B19
  rw [hm.1, if_neg (nI_ge hv (by omega)), ix6, gd_h (okI_nI (by omega) (by omega)), nI_clamp (by omega), hm.2 u v (by omega) hv]
  by_cases hz : w u v = 0
  · have e0 : lf w (u, v) = none := by unfold lf; rw [if_pos hz]
    refine ⟨σ, ?_, Fr.rf, ?_⟩
    · rw [if_pos (by rw [hz]; rfl), vl_e, nI_1]
    · rw [e0]
      simpa using hh
  · have e0 : lf w (u, v) = some (u, v, w u v) := by unfold lf; rw [if_neg hz]
    rw [e0] at hl ⊢
    simp only [Option.toList_some, List.length_append, List.length_cons, List.length_nil] at hl
    have hm10 : L.length < 10 := by omega
    have hne : ¬ nI (w u v) = 0 := nI_ne0 (by omega) (by have := h9 u v; omega)
    rw [if_neg hne, hh.1, if_neg (show ¬ (10 : Int32) ≤ nI L.length by rw [il_10]; exact nI_ge hm10 (by omega))]
    simp only [vl_e, gI_pA, hh.1, nI_clamp (show L.length < 2 ^ 31 by omega), gd_h (okI_nI hm10 (show 10 < 2 ^ 31 by omega)), nI_1]
    refine ⟨_, rfl, ((Fr.pA (by simp)).tr (Fr.pA (by simp))).tr (Fr.pI (by simp)), ?_, ?_⟩
    · rw [gI_pI, if_pos rfl]
      simp
    · intro i e he
      have h56 : ¬ (5 + 4 * k = 6 + 4 * k) := by omega
      have h65 : ¬ (6 + 4 * k = 5 + 4 * k) := by omega
      simp only [gA_pI, gA_pA, upd_at, h56, h65, if_true, if_false]
      by_cases hi : i = L.length
      · subst hi
        simp at he
        subst he
        simp
      · have hlt : i < L.length := by
          have := (List.getElem?_eq_some_iff.mp he).1
          simp at this
          omega
        rw [if_neg hi, if_neg hi]
        rw [List.getElem?_append_left hlt] at he
        exact hh.2 i e he
theorem prow_at {n u i : Nat} (h : i < n - (u + 1)) : (prow n u)[i]? = some (u, u + 1 + i) := by
  unfold prow
  rw [List.getElem?_map, List.getElem?_range' h]
  simp
theorem take_fm {L : List (Nat × Nat)} {f : Nat × Nat → Option (Nat × Nat × Nat)} {i : Nat} {q : Nat × Nat} (h : L[i]? = some q) : (L.take (i + 1)).filterMap f = (L.take i).filterMap f ++ (f q).toList := by
  rw [List.take_succ, h, List.filterMap_append]
  simp only [Option.toList_some]
  cases hf : f q <;> simp [hf]
theorem prs_cut {n u : Nat} (h : u < n) : ∃ R, prs n = (List.range u).flatMap (prow n) ++ (prow n u ++ R) := by
  refine ⟨((List.range (n - (u + 1))).map (u + 1 + ·)).flatMap (prow n), ?_⟩
  unfold prs
  conv => lhs; rw [show n = (u + 1) + (n - (u + 1)) by omega, List.range_add, List.range_succ]
  rw [show (u + 1) + (n - (u + 1)) = n by omega, List.flatMap_append, List.flatMap_append]
  simp
theorem nl_row {σ : Sg} {k n u : Nat} {w : Nat → Nat → Nat} (hw : wok n w) (hm : Mat σ k n w) (hu : u < n) (hh : Held σ k (((List.range u).flatMap (prow n)).filterMap (lf w))) :
    ∃ σ', wl (fun a : Int32 × Sg => f_X1_numberLines_B19 k (nI u) a.1 a.2) FU (nI (u + 1), σ) = some σ' ∧ (FrN k σ σ' ∧ Held σ' k (((List.range (u + 1)).flatMap (prow n)).filterMap (lf w))) := by
  obtain ⟨R, hR⟩ := prs_cut hu
  have hlen := hw.2.2.2.2.2
  have hn := hw.2.1
  refine wl_inv (N := n - (u + 1)) (I := fun i (a : Int32 × Sg) => a.1 = nI (u + 1 + i) ∧ FrN k σ a.2 ∧ Held a.2 k (((List.range u).flatMap (prow n)).filterMap (lf w) ++ ((prow n u).take i).filterMap (lf w))) (fun i a hi hI => ?_) FU 0 _ ?_ (Nat.zero_le _) (FU_big (by omega))
  · obtain ⟨x, σ1⟩ := a
    obtain ⟨hx, hF, hH⟩ := hI
    dsimp only at hx hF hH ⊢
    subst hx
    by_cases he : i = n - (u + 1)
    · refine ⟨.inr σ1, ?_, Or.inr ⟨σ1, rfl, hF, ?_⟩⟩
      · unfold f_X1_numberLines_B19
        rw [(hF.mat hm).1, if_pos (nI_le (by omega) (by omega))]
      · rw [List.range_succ, List.flatMap_append, List.filterMap_append]
        rw [List.take_of_length_le (by unfold prow; simp; omega)] at hH
        simpa using hH
    · have hp := prow_at (n := n) (u := u) (i := i) (by omega)
      obtain ⟨σ', h1, h2, h3⟩ := nl_step hn hw.2.2.2.2.1 (hF.mat hm) hH (show u < u + 1 + i by omega) (show u + 1 + i < n by omega) (by
        rw [List.append_assoc, ← take_fm hp, List.length_append]
        unfold Ln at hlen
        rw [hR, List.filterMap_append, List.filterMap_append, List.length_append, List.length_append] at hlen
        have : (List.filterMap (lf w) ((prow n u).take (i + 1))).length ≤ (List.filterMap (lf w) (prow n u)).length := ((List.take_sublist (i + 1) (prow n u)).filterMap (lf w)).length_le
        omega)
      refine ⟨_, h1, Or.inl ⟨_, rfl, by omega, by rw [show u + 1 + i + 1 = u + 1 + (i + 1) by omega], hF.tr h2, ?_⟩⟩
      rw [List.append_assoc, ← take_fm hp] at h3
      exact h3
  · exact ⟨rfl, Fr.rf, by simpa using hh⟩
theorem f_numberLines_yes {σ : Sg} {k n : Nat} {w : Nat → Nat → Nat} (hw : wok n w) (hm : Mat σ k n w) : ∃ σ', f_X1_numberLines σ k = some σ' ∧ FrN k σ σ' ∧ NetAt σ' k n w := by
  have hn := hw.2.1
  unfold f_X1_numberLines
  rw [vl_e]
  have hF0 : FrN k σ (pI σ (5 + 2 * k) 0) := Fr.pI (by simp)
  have key := wl_inv (body := fun a : Int32 × Sg => f_X1_numberLines_B7 k a.1 a.2) (N := n) (I := fun i (a : Int32 × Sg) => a.1 = nI i ∧ FrN k σ a.2 ∧ Held a.2 k (((List.range i).flatMap (prow n)).filterMap (lf w))) (Post := fun b => FrN k σ b ∧ Held b k (Ln n w)) (fun i a hi hI => ?_) FU 0 ((0 : Int32), pI σ (5 + 2 * k) 0) ?_ (Nat.zero_le _) (FU_big (by omega))
  · obtain ⟨σ', h1, h2, h3⟩ := key
    rw [h1]
    exact ⟨σ', rfl, h2, (h2.mat hm).1, h3.1, (h2.mat hm).2, h3.2⟩
  · obtain ⟨x, σ1⟩ := a
    obtain ⟨hx, hF, hH⟩ := hI
    dsimp only at hx hF hH ⊢
    subst hx
    by_cases he : i = n
    · subst he
      refine ⟨.inr σ1, ?_, Or.inr ⟨σ1, rfl, hF, hH⟩⟩
      unfold f_X1_numberLines_B7
      rw [(hF.mat hm).1, if_pos (nI_le (Nat.le_refl _) (by omega))]
    · obtain ⟨σ', h1, h2, h3⟩ := nl_row hw (hF.mat hm) (show i < n by omega) hH
      refine ⟨.inl (nI (i + 1), σ'), ?_, Or.inl ⟨_, rfl, by omega, rfl, hF.tr h2, h3⟩⟩
      unfold f_X1_numberLines_B7
      rw [(hF.mat hm).1, if_neg (nI_ge (show i < n by omega) (by omega)), vl_e, nI_1, h1]
      rfl
  · exact ⟨rfl, hF0, by rw [gI_pI, if_pos rfl]; rfl, fun i e he => by simp at he⟩
/-- a width is put -/
def w2 (w : Nat → Nat → Nat) (u v a : Nat) : Nat → Nat → Nat := fun x y => if (x = u ∧ y = v) ∨ (x = v ∧ y = u) then a else w x y
abbrev FrP (k : Nat) (σ σ' : Sg) : Prop := Fr [5 + 2 * k] [4 + 4 * k, 5 + 4 * k, 6 + 4 * k] [] σ σ'
theorem FrN.p {k : Nat} {σ σ' : Sg} (h : FrN k σ σ') : FrP k σ σ' := Fr.mono h (fun _ q => q) (fun _ q => List.mem_cons_of_mem _ q) (fun _ q => q)
theorem f_put_yes {σ : Sg} {k n u v a : Nat} {w : Nat → Nat → Nat} (hn : n ≤ 6) (hm : Mat σ k n w) (hu : u < n) (hv : v < n) (huv : u ≠ v) (hw : wok n (w2 w u v a)) : ∃ σ', f_X1_put σ k (nI u) (nI v) (nI a) = some σ' ∧ FrP k σ σ' ∧ NetAt σ' k n (w2 w u v a) := by
  unfold f_X1_put
  rw [f_hasNode_yes hm.1 hn hu, Option.bind_some, if_neg ne10, f_hasNode_yes hm.1 hn hv, Option.bind_some, if_neg ne10, if_neg (by rw [nI_eq (by omega) (by omega)]; exact huv), ix6, ix6, gd_h (okI_nI (by omega) (by omega)), nI_clamp (by omega), vl_e, gd_h (okI_nI (by omega) (by omega)), nI_clamp (by omega), vl_e]
  have hF : FrP k σ (pA (pA σ (4 + 4 * k) (u * 6 + v) (nI a)) (4 + 4 * k) (v * 6 + u) (nI a)) := (Fr.pA (by simp)).tr (Fr.pA (by simp))
  obtain ⟨σ', h1, h2, h3⟩ := f_numberLines_yes (σ := pA (pA σ (4 + 4 * k) (u * 6 + v) (nI a)) (4 + 4 * k) (v * 6 + u) (nI a)) (k := k) hw ⟨by rw [gI_pA, gI_pA]; exact hm.1, fun x y hx hy => by
    rw [gA_pA, if_pos rfl, upd_at, gA_pA, if_pos rfl, upd_at]
    unfold w2
    by_cases c1 : x * 6 + y = v * 6 + u
    · have : x = v ∧ y = u := by omega
      rw [if_pos c1, if_pos (Or.inr this)]
    · rw [if_neg c1]
      by_cases c2 : x * 6 + y = u * 6 + v
      · have : x = u ∧ y = v := by omega
        rw [if_pos c2, if_pos (Or.inl this)]
      · rw [if_neg c2, if_neg (by rintro (⟨rfl, rfl⟩ | ⟨rfl, rfl⟩) <;> omega)]
        exact hm.2 x y hx hy⟩
  rw [h1]
  exact ⟨σ', rfl, hF.tr h2.p, h3⟩
theorem c0 : (0 : Int32).toNatClampNeg = 0 := rfl
theorem c36 : (36 : Int32).toNatClampNeg = 36 := rfl
abbrev FrC (k : Nat) (σ σ' : Sg) : Prop := Fr [4 + 2 * k, 5 + 2 * k] [4 + 4 * k, 5 + 4 * k, 6 + 4 * k] [] σ σ'
theorem FrP.c {k : Nat} {σ σ' : Sg} (h : FrP k σ σ') : FrC k σ σ' := Fr.mono h (fun _ q => List.mem_cons_of_mem _ q) (fun _ q => q) (fun _ q => q)
theorem f_copyFrom_yes {σ : Sg} {k j n : Nat} {w : Nat → Nat → Nat} (hkj : k ≠ j) (hw : wok n w) (hm : Mat σ j n w) : ∃ σ', f_X1_copyFrom σ k j = some σ' ∧ FrC k σ σ' ∧ NetAt σ' k n w := by
  have hn := hw.2.1
  unfold f_X1_copyFrom
  rw [vl_e, vl_e, gd_h (by decide), vl_e, c0, c36]
  obtain ⟨σ', h1, h2, h3⟩ := f_numberLines_yes (σ := pAr (pI σ (4 + 2 * k) (gI σ (4 + 2 * j))) (4 + 4 * k) (va_cpy (gA (pI σ (4 + 2 * k) (gI σ (4 + 2 * j))) (4 + 4 * j)) (gA (pI σ (4 + 2 * k) (gI σ (4 + 2 * j))) (4 + 4 * k)) 0 0 36)) (k := k) hw ⟨by rw [gI_pAr, gI_pI, if_pos rfl]; exact hm.1, fun x y hx hy => by
    rw [gA_pAr, if_pos rfl, gA_pI, pk_cpy_in (Nat.zero_le _) (by omega)]
    rw [show 0 + (x * 6 + y - 0) = x * 6 + y by omega]
    exact hm.2 x y hx hy⟩
  rw [h1]
  exact ⟨σ', rfl, ((Fr.pI (by simp)).tr (Fr.pAr (by simp))).tr h2.p.c, h3⟩
/-- filled -/
theorem f_fillI_yes {σ : Sg} {q : Nat} {x : Int32} (hq : lenA q < 2 ^ 31) (hq2 : lenA q < 5000) : ∃ σ', f_J7_fill_53178 σ q x = some σ' ∧ Fr [] [q] [] σ σ' ∧ ∀ i, i < lenA q → gA σ' q i = x := by
  unfold f_J7_fill_53178
  rw [vl_e]
  have key := wl_inv (body := fun a : Int32 × Sg => f_J7_fill_53178_B5 q x (nI (lenA q)) a.1 a.2) (N := lenA q) (I := fun i (a : Int32 × Sg) => a.1 = nI i ∧ Fr [] [q] [] σ a.2 ∧ ∀ j, j < i → gA a.2 q j = x) (Post := fun b => Fr [] [q] [] σ b ∧ ∀ j, j < lenA q → gA b q j = x) (fun i a hi hI => ?_) FU 0 ((0 : Int32), σ) ⟨rfl, Fr.rf, fun j hj => by omega⟩ (Nat.zero_le _) (FU_big (by omega))
  · obtain ⟨σ', h1, h2, h3⟩ := key
    rw [h1]
    exact ⟨σ', rfl, h2, h3⟩
  · obtain ⟨y, σ1⟩ := a
    obtain ⟨hx, hF, hH⟩ := hI
    dsimp only at hx hF hH ⊢
    subst hx
    unfold f_J7_fill_53178_B5
    by_cases he : i = lenA q
    · subst he
      exact ⟨.inr σ1, by rw [if_pos (nI_le (Nat.le_refl _) hq)], Or.inr ⟨σ1, rfl, hF, hH⟩⟩
    · refine ⟨_, by rw [if_neg (nI_ge (show i < lenA q by omega) hq), gd_h (okI_nI (by omega) hq), vl_e, vl_e, nI_1, nI_clamp (by omega)], Or.inl ⟨_, rfl, by omega, rfl, hF.tr (Fr.pA (List.mem_singleton.mpr rfl)), fun j hj => ?_⟩⟩
      dsimp only
      rw [gA_pA, if_pos rfl, upd_at]
      by_cases hji : j = i
      · rw [if_pos hji]
      · rw [if_neg hji]
        exact hH j (by omega)
theorem Ln_zero {n : Nat} {w : Nat → Nat → Nat} (h : ∀ u v, u < n → v < n → w u v = 0) : Ln n w = [] := by
  rw [List.eq_nil_iff_forall_not_mem]
  intro e he
  have := mem_Ln.mp he
  have h0 := h e.1 e.2.1 (by omega) (by omega)
  omega
theorem f_empty_yes {σ : Sg} {k n : Nat} (hk : k < 5) (h2 : 2 ≤ n) (h6 : n ≤ 6) : ∃ σ', f_X1_empty σ k (nI n) = some σ' ∧ FrC k σ σ' ∧ NetAt σ' k n (fun _ _ => 0) := by
  unfold f_X1_empty
  have e1 : (if (2 : Int32) < (if nI n < (6 : Int32) then nI n else (6 : Int32)) then (if nI n < (6 : Int32) then nI n else (6 : Int32)) else (2 : Int32)) = nI n := by
    have e0 : (if nI n < (6 : Int32) then nI n else (6 : Int32)) = nI n := by
      by_cases c : n = 6
      · subst c; rfl
      · rw [if_pos (show nI n < (6 : Int32) by rw [il_6]; exact nI_lt (by omega) (by omega))]
    rw [e0]
    by_cases c : n = 2
    · subst c; rfl
    · rw [if_pos (show (2 : Int32) < nI n by rw [il_2]; exact nI_lt (by omega) (by omega))]
  rw [e1, vl_e, vl_e, vl_e]
  have hl := lenA_w hk
  obtain ⟨σ', g1, g2, g3⟩ := f_fillI_yes (σ := pI (pI σ (4 + 2 * k) (nI n)) (5 + 2 * k) 0) (q := 4 + 4 * k) (x := 0) (by rw [hl]; decide) (by rw [hl]; decide)
  rw [g1]
  have hL : Ln n (fun _ _ => 0) = [] := Ln_zero (fun _ _ _ _ => rfl)
  refine ⟨σ', rfl, ((Fr.pI (by simp)).tr (Fr.pI (by simp))).tr (Fr.mono g2 (fun _ q => absurd q List.not_mem_nil) (fun i q => by rw [List.mem_singleton.mp q]; simp) (fun _ q => q)), ?_, ?_, ?_, ?_⟩
  · rw [g2.1 _ List.not_mem_nil, gI_pI, if_neg (by omega), gI_pI, if_pos rfl]
  · rw [g2.1 _ List.not_mem_nil, gI_pI, if_pos rfl, hL]
    rfl
  · intro u v hu hv
    rw [g3 _ (by rw [hl]; omega)]
    rfl
  · intro i e he
    rw [hL] at he
    simp at he
