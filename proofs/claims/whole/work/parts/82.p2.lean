/-! the reference's rows -/
theorem t64_lt {a b : Int32} : a.toInt64 < b.toInt64 ↔ a < b := by rw [Int64.lt_iff_toInt_lt, Int32.lt_iff_toInt_lt, Int32.toInt_toInt64, Int32.toInt_toInt64]
theorem f_in_i (x a b : Int32) : f_X7_in x.toInt64 a.toInt64 b.toInt64 = if x < a ∨ b < x then some 0 else some 1 := by
  unfold f_X7_in
  simp only [t64_lt]
  by_cases h1 : x < a
  · rw [if_pos h1, if_pos (Or.inl h1)]
  · rw [if_neg h1]
    by_cases h2 : b < x
    · rw [if_pos h2, if_pos (Or.inr h2)]
    · rw [if_neg h2, if_neg (by rintro (q | q) <;> contradiction)]
theorem okZ0 : okZ 0 = true := by decide
theorem okZ1 : okZ 1 = true := by decide
theorem nI_m1 {n : Nat} (h : 1 ≤ n) : nI n - 1 = nI (n - 1) := by rw [il_1, pk_sub h]
theorem nI_lt0 {x : Int32} {n : Nat} (h1 : 1 ≤ n) (hn : n < 2 ^ 31) : (nI (n - 1) < x) ↔ nI n ≤ x := by
  rw [Int32.lt_iff_toInt_lt, Int32.le_iff_toInt_le, nI_toInt (by omega), nI_toInt hn]
  omega
theorem f_isNode_no {σ : Sg} {n : Nat} {x : Int32} (h : gI σ 17 = nI n) (h2 : 2 ≤ n) (h6 : n ≤ 6) (hx : x < 0 ∨ nI n ≤ x) : f_X7_isNode σ x = some 0 := by
  unfold f_X7_isNode
  rw [h, nI_m1 (by omega), show (0 : Int64) = (0 : Int32).toInt64 from rfl, f_in_i, if_pos (by rw [nI_lt0 (by omega) (by omega)]; exact hx)]
  rfl
theorem f_isNode_yes {σ : Sg} {n u : Nat} (h : gI σ 17 = nI n) (h6 : n ≤ 6) (hu : u < n) : f_X7_isNode σ (nI u) = some 1 := by
  unfold f_X7_isNode
  rw [h, nI_m1 (by omega), show (0 : Int64) = (0 : Int32).toInt64 from rfl, f_in_i, if_neg (by rw [nI_lt0 (by omega) (by omega)]; rintro (q | q); exact nI_pos (by omega) q; exact nI_ge hu (by omega) q)]
  rfl
def RecAt (σ : Sg) (r i : Nat) (e : Nat × Nat × Nat) : Prop := gA σ 46 (r + 1 + i) = nI e.1 ∧ gA σ 46 (r + 11 + i) = nI e.2.1 ∧ gA σ 46 (r + 21 + i) = nI e.2.2
def RowAt (σ : Sg) (r : Nat) (L : List (Nat × Nat × Nat)) : Prop := gA σ 46 r = nI L.length ∧ ∀ i e, L[i]? = some e → RecAt σ r i e
theorem f_lines_yes {σ : Sg} {L : List (Nat × Nat × Nat)} (h : RowAt σ 0 L) : f_X7_lines σ = some (nI L.length) := by
  unfold f_X7_lines
  rw [gd_h (by decide), c0, h.1]
theorem f_isLine_no {σ : Sg} {x : Int32} {L : List (Nat × Nat × Nat)} (h : RowAt σ 0 L) (hl : L.length ≤ 10) (hx : x < 0 ∨ nI L.length ≤ x) : f_X7_isLine σ x = some 0 := by
  unfold f_X7_isLine
  rw [f_lines_yes h, Option.bind_some, show (0 : Int64) = (0 : Int32).toInt64 from rfl, f_in_i, if_pos]
  · rfl
  · rcases hx with q | q
    · exact Or.inl q
    · by_cases c : L.length = 0
      · rw [c] at q ⊢
        by_cases c2 : x < 0
        · exact Or.inl c2
        · refine Or.inr ?_
          rw [Int32.lt_iff_toInt_lt]
          have h0 := Int32.le_iff_toInt_le.mp q
          have e0 : (nI 0).toInt = 0 := rfl
          have e1 : (nI 0 - 1).toInt = -1 := rfl
          omega
      · rw [nI_m1 (by omega), nI_lt0 (by omega) (by omega)]
        exact Or.inr q
theorem f_isLine_yes {σ : Sg} {i : Nat} {L : List (Nat × Nat × Nat)} (h : RowAt σ 0 L) (hl : L.length ≤ 10) (hi : i < L.length) : f_X7_isLine σ (nI i) = some 1 := by
  unfold f_X7_isLine
  rw [f_lines_yes h, Option.bind_some, show (0 : Int64) = (0 : Int32).toInt64 from rfl, f_in_i, nI_m1 (by omega), if_neg]
  · rfl
  · rw [nI_lt0 (by omega) (by omega)]
    rintro (q | q)
    · exact nI_pos (by omega) q
    · exact nI_ge hi (by omega) q
/-- a row is copied -/
theorem f_copyRow_yes {σ : Sg} {a b : Nat} (ha : a + 31 ≤ 496) (hb : b + 31 ≤ 496) (hab : a + 31 ≤ b ∨ b + 31 ≤ a) : ∃ σ', f_X7_copyRow σ (nI a) (nI b) = some σ' ∧ Fr [] [46] [] σ σ' ∧ (∀ i, i < 31 → gA σ' 46 (b + i) = gA σ 46 (a + i)) ∧ ∀ j, (j < b ∨ b + 31 ≤ j) → gA σ' 46 j = gA σ 46 j := by
  unfold f_X7_copyRow
  have key := wl_inv (body := fun q : Int32 × Sg => f_X7_copyRow_B2 (nI a) (nI b) q.1 q.2) (N := 31) (I := fun i (q : Int32 × Sg) => q.1 = nI i ∧ Fr [] [46] [] σ q.2 ∧ (∀ j, j < i → gA q.2 46 (b + j) = gA σ 46 (a + j)) ∧ ∀ j, (j < b ∨ b + i ≤ j) → gA q.2 46 j = gA σ 46 j) (Post := fun σ' => Fr [] [46] [] σ σ' ∧ (∀ i, i < 31 → gA σ' 46 (b + i) = gA σ 46 (a + i)) ∧ ∀ j, (j < b ∨ b + 31 ≤ j) → gA σ' 46 j = gA σ 46 j) (fun i q hi hI => ?_) FU 0 ((0 : Int32), σ) ⟨rfl, Fr.rf, fun j hj => by omega, fun j _ => rfl⟩ (Nat.zero_le _) (FU_big (by omega))
  · obtain ⟨σ', h1, h2⟩ := key
    rw [h1]
    exact ⟨σ', rfl, h2⟩
  · obtain ⟨x, σ1⟩ := q
    obtain ⟨hx, hF, hA, hB⟩ := hI
    dsimp only at hx hF hA hB ⊢
    subst hx
    unfold f_X7_copyRow_B2
    rw [il_31]
    by_cases he : i = 31
    · subst he
      exact ⟨.inr σ1, by rw [if_pos (nI_le (Nat.le_refl _) (by omega))], Or.inr ⟨σ1, rfl, hF, hA, hB⟩⟩
    · refine ⟨_, by rw [if_neg (nI_ge (show i < 31 by omega) (by omega)), nI_add, nI_add, gd_h (okI_nI (by omega) (by omega)), vl_e, gd_h (okI_nI (by omega) (by omega)), vl_e, vl_e, nI_1, nI_clamp (by omega), nI_clamp (by omega)], Or.inl ⟨_, rfl, by omega, rfl, hF.tr (Fr.pA (List.mem_singleton.mpr rfl)), fun j hj => ?_, fun j hj => ?_⟩⟩
      · dsimp only
        rw [gA_pA, if_pos rfl, upd_at]
        by_cases c : j = i
        · subst c
          rw [if_pos rfl, hB _ (by omega)]
        · rw [if_neg (by omega)]
          exact hA j (by omega)
      · dsimp only
        rw [gA_pA, if_pos rfl, upd_at, if_neg (by omega)]
        exact hB j (by omega)
theorem RowAt.of {σ σ' : Sg} {a b : Nat} {L : List (Nat × Nat × Nat)} (h : RowAt σ a L) (hl : L.length ≤ 10) (he : ∀ i, i < 31 → gA σ' 46 (b + i) = gA σ 46 (a + i)) : RowAt σ' b L := by
  refine ⟨by have := he 0 (by omega); rw [Nat.add_zero, Nat.add_zero] at this; rw [this]; exact h.1, fun i e hi => ?_⟩
  have hlt : i < L.length := (List.getElem?_eq_some_iff.mp hi).1
  obtain ⟨h1, h2, h3⟩ := h.2 i e hi
  unfold RecAt
  rw [show b + 1 + i = b + (1 + i) by omega, show b + 11 + i = b + (11 + i) by omega, show b + 21 + i = b + (21 + i) by omega, he _ (by omega), he _ (by omega), he _ (by omega), show a + (1 + i) = a + 1 + i by omega, show a + (11 + i) = a + 11 + i by omega, show a + (21 + i) = a + 21 + i by omega]
  exact ⟨h1, h2, h3⟩
theorem RowAt.keep {σ σ' : Sg} {a : Nat} {L : List (Nat × Nat × Nat)} (h : RowAt σ a L) (hl : L.length ≤ 10) (he : ∀ j, a ≤ j → j < a + 31 → gA σ' 46 j = gA σ 46 j) : RowAt σ' a L := h.of hl (fun i hi => he _ (by omega) (by omega))
/-- the line of two nodes in a row -/
theorem lo_min {u v : Nat} (hu : u < 6) (hv : v < 6) : f_X7_lineOf_J10 = f_X7_lineOf_J10 := rfl
theorem f_lineOf_yes {σ : Sg} {r u v : Nat} {L : List (Nat × Nat × Nat)} (hr : r + 31 ≤ 496) (h : RowAt σ r L) (hl : L.length ≤ 10) (hb : ∀ e ∈ L, e.1 < 6 ∧ e.2.1 < 6) (hu : u < 6) (hv : v < 6) : ∃ x, f_X7_lineOf σ (nI r) (nI u) (nI v) = some x ∧ ((x = -9 ∧ ∀ e ∈ L, ¬ (e.1 = min u v ∧ e.2.1 = max u v)) ∨ ∃ i e, L[i]? = some e ∧ e.1 = min u v ∧ e.2.1 = max u v ∧ x = nI i) := by
  have main : ∀ lo hi : Nat, lo = min u v → hi = max u v → ∃ x, f_X7_lineOf_J10 σ (nI r) (nI u) (nI v) (nI lo) = some x ∧ ((x = -9 ∧ ∀ e ∈ L, ¬ (e.1 = min u v ∧ e.2.1 = max u v)) ∨ ∃ i e, L[i]? = some e ∧ e.1 = min u v ∧ e.2.1 = max u v ∧ x = nI i) := by
    intro lo hi hlo hhi
    have hsum : nI u + nI v - nI lo = nI hi := by rw [nI_add, pk_sub (by omega), show u + v - lo = hi by omega]
    unfold f_X7_lineOf_J10
    have key := wl_inv (body := fun a : Int32 × Int32 => f_X7_lineOf_B19 σ (nI r) (nI u) (nI v) (nI lo) a.1 a.2) (N := L.length) (I := fun i (a : Int32 × Int32) => a.2 = nI i ∧ ((a.1 = -9 ∧ ∀ j e, j < i → L[j]? = some e → ¬ (e.1 = lo ∧ e.2.1 = hi)) ∨ ∃ j e, L[j]? = some e ∧ e.1 = lo ∧ e.2.1 = hi ∧ a.1 = nI j)) (Post := fun x => ((x = -9 ∧ ∀ e ∈ L, ¬ (e.1 = lo ∧ e.2.1 = hi)) ∨ ∃ i e, L[i]? = some e ∧ e.1 = lo ∧ e.2.1 = hi ∧ x = nI i)) (fun i a hi2 hI => ?_) FU 0 ((-9 : Int32), (0 : Int32)) ⟨rfl, Or.inl ⟨rfl, fun j e hj => by omega⟩⟩ (Nat.zero_le _) (FU_big (by omega))
    · obtain ⟨x, h1, h2⟩ := key
      rw [h1]
      subst hlo
      subst hhi
      exact ⟨x, rfl, h2⟩
    · obtain ⟨x, y⟩ := a
      obtain ⟨hy, hI⟩ := hI
      dsimp only at hy hI ⊢
      subst hy
      unfold f_X7_lineOf_B19
      rw [il_0, nI_add, Nat.add_zero, gd_h (okI_nI (by omega) (by omega)), nI_clamp (by omega), h.1]
      by_cases he : i = L.length
      · subst he
        refine ⟨.inr x, by rw [if_pos (nI_le (Nat.le_refl _) (by omega))], Or.inr ⟨x, rfl, ?_⟩⟩
        rcases hI with ⟨q1, q2⟩ | q
        · refine Or.inl ⟨q1, fun e he => ?_⟩
          obtain ⟨j, hj⟩ := List.getElem?_of_mem he
          exact q2 j e (List.getElem?_eq_some_iff.mp hj).1 hj
        · exact Or.inr q
      · have hlt : i < L.length := by omega
        have hg : L[i]? = some L[i] := List.getElem?_eq_getElem hlt
        obtain ⟨g1, g2, -⟩ := h.2 i _ hg
        have hbb := hb _ (List.mem_of_getElem? hg)
        rw [if_neg (nI_ge hlt (by omega)), il_1, nI_add, nI_add, gd_h (okI_nI (by omega) (by omega)), nI_clamp (by omega), g1]
        by_cases c1 : L[i].1 = lo
        · rw [if_pos (by rw [c1]), il_11, nI_add, nI_add, gd_h (okI_nI (by omega) (by omega)), nI_clamp (by omega), g2, hsum]
          by_cases c2 : L[i].2.1 = hi
          · rw [if_pos (by rw [c2])]
            exact ⟨_, rfl, Or.inl ⟨_, rfl, hlt, by rw [nI_add], Or.inr ⟨i, _, hg, c1, c2, rfl⟩⟩⟩
          · rw [if_neg (by rw [nI_eq (by omega) (by omega)]; exact c2)]
            refine ⟨_, rfl, Or.inl ⟨_, rfl, hlt, by rw [nI_add], ?_⟩⟩
            rcases hI with ⟨q1, q2⟩ | q
            · refine Or.inl ⟨q1, fun j e hj hje => ?_⟩
              by_cases c3 : j = i
              · subst c3
                rw [hg] at hje
                cases hje
                exact fun q => c2 q.2
              · exact q2 j e (by omega) hje
            · exact Or.inr q
        · rw [if_neg (by rw [nI_eq (by omega) (by omega)]; exact c1)]
          refine ⟨_, rfl, Or.inl ⟨_, rfl, hlt, by rw [nI_add], ?_⟩⟩
          rcases hI with ⟨q1, q2⟩ | q
          · refine Or.inl ⟨q1, fun j e hj hje => ?_⟩
            by_cases c3 : j = i
            · subst c3
              rw [hg] at hje
              cases hje
              exact fun q => c1 q.1
            · exact q2 j e (by omega) hje
          · exact Or.inr q
  unfold f_X7_lineOf
  by_cases c : v ≤ u
  · rw [if_pos (nI_le c (by omega))]
    exact main v u (by omega) (by omega)
  · rw [if_neg (nI_ge (by omega) (by omega))]
    exact main u v (by omega) (by omega)
/-- three places of a line -/
def setL (σ : Sg) (r j : Nat) (e : Nat × Nat × Nat) : Sg := pA (pA (pA σ 46 (r + 1 + j) (nI e.1)) 46 (r + 11 + j) (nI e.2.1)) 46 (r + 21 + j) (nI e.2.2)
theorem setL_at {σ : Sg} {r j : Nat} {e : Nat × Nat × Nat} (q : Nat) : gA (setL σ r j e) 46 q = if q = r + 21 + j then nI e.2.2 else if q = r + 11 + j then nI e.2.1 else if q = r + 1 + j then nI e.1 else gA σ 46 q := by
  unfold setL
  rw [gA_pA, if_pos rfl, upd_at, gA_pA, if_pos rfl, upd_at, gA_pA, if_pos rfl, upd_at]
theorem setL_fr {σ : Sg} {r j : Nat} {e : Nat × Nat × Nat} : Fr [] [46] [] σ (setL σ r j e) := ((Fr.pA (by simp)).tr (Fr.pA (by simp))).tr (Fr.pA (by simp))
theorem setL_self {σ : Sg} {r j : Nat} {e : Nat × Nat × Nat} : RecAt (setL σ r j e) r j e := by
  unfold RecAt
  rw [setL_at, setL_at, setL_at, if_neg (by omega), if_neg (by omega), if_pos rfl, if_neg (by omega), if_pos rfl, if_pos rfl]
  exact ⟨rfl, rfl, rfl⟩
theorem setL_far {σ : Sg} {r j i : Nat} {e f : Nat × Nat × Nat} (hj : j < 10) (hi : i < 10) (hij : i ≠ j) (h : RecAt σ r i f) : RecAt (setL σ r j e) r i f := by
  unfold RecAt
  rw [setL_at, setL_at, setL_at]
  rw [if_neg (by omega), if_neg (by omega), if_neg (by omega), if_neg (by omega), if_neg (by omega), if_neg (by omega), if_neg (by omega), if_neg (by omega), if_neg (by omega)]
  exact h
theorem setL_out {σ : Sg} {r j q : Nat} {e : Nat × Nat × Nat} (hj : j < 10) (h : q ≤ r ∨ r + 31 ≤ q) : gA (setL σ r j e) 46 q = gA σ 46 q := by rw [setL_at, if_neg (by omega), if_neg (by omega), if_neg (by omega)]
theorem ixd {r c a : Nat} (h : 1 ≤ a) : nI r + nI c + nI a - nI 1 = nI (r + c + (a - 1)) := by rw [nI_add, nI_add, pk_sub (by omega), show r + c + a - 1 = r + c + (a - 1) by omega]
theorem m1 {a : Nat} (h : 1 ≤ a) : nI a + -nI 1 = nI (a - 1) := by
  obtain ⟨b, rfl⟩ : ∃ b, a = b + 1 := ⟨a - 1, by omega⟩
  exact pk_m1 b
theorem adds_go {σ : Sg} {r a lo hi : Nat} {e : Nat × Nat × Nat} (hr : r + 31 ≤ 496) (ha : 1 ≤ a) (ha9 : a ≤ 9) (h : RecAt σ r (a - 1) e) (hb : e.1 < 6 ∧ e.2.1 < 6) (hlo : lo < 6) (hhi : hi < 6) (hk : 6 * lo + hi < lk e) : f_X7_adds_B30 (nI r) (nI lo) (nI hi) (nI a) σ = some (.inl (nI (a - 1), setL σ r a e)) := by
  unfold f_X7_adds_B30
  unfold lk at hk
  obtain ⟨h1, h2, h3⟩ := h
  rw [if_neg (nI_nle (by omega) (by omega)), il_1, il_11, il_21, il_6, ixd ha, ixd ha, gd_h (okI_nI (by omega) (by omega)), gd_h (okI_nI (by omega) (by omega)), nI_clamp (by omega), nI_clamp (by omega), h1, h2, pk_mul, pk_mul, nI_add, nI_add, if_neg (nI_ge (by omega) (by omega)), gd_h (okI_nI (by omega) (by omega)), vl_e, nI_add, nI_add, gd_h (okI_nI (by omega) (by omega)), vl_e, nI_clamp (by omega), gd_h (okI_nI (by omega) (by omega)), vl_e, gA_pA, if_pos rfl, upd_at, if_neg (by omega), h2, nI_add, nI_add, gd_h (okI_nI (by omega) (by omega)), vl_e, nI_clamp (by omega), ixd ha, gd_h (okI_nI (by omega) (by omega)), vl_e, nI_clamp (by omega), gA_pA, if_pos rfl, upd_at, if_neg (by omega), gA_pA, if_pos rfl, upd_at, if_neg (by omega), h3, nI_add, nI_add, gd_h (okI_nI (by omega) (by omega)), vl_e, nI_clamp (by omega), vl_e, m1 ha]
  rfl
theorem adds_stop {σ : Sg} {r a lo hi : Nat} (hr : r + 31 ≤ 496) (ha9 : a ≤ 9) (hlo : lo < 6) (hhi : hi < 6) (h : a = 0 ∨ ∃ e, RecAt σ r (a - 1) e ∧ e.1 < 6 ∧ e.2.1 < 6 ∧ lk e ≤ 6 * lo + hi) : f_X7_adds_B30 (nI r) (nI lo) (nI hi) (nI a) σ = some (.inr (nI a, σ)) := by
  unfold f_X7_adds_B30
  by_cases h0 : a = 0
  · subst h0
    rw [if_pos (show nI 0 ≤ 0 by decide)]
  · obtain ⟨e, ⟨h1, h2, h3⟩, b1, b2, hk⟩ := h.resolve_left h0
    unfold lk at hk
    have ha : 1 ≤ a := by omega
    rw [if_neg (nI_nle (by omega) (by omega)), il_1, il_11, il_6, ixd ha, ixd ha, gd_h (okI_nI (by omega) (by omega)), gd_h (okI_nI (by omega) (by omega)), nI_clamp (by omega), nI_clamp (by omega), h1, h2, pk_mul, pk_mul, nI_add, nI_add, if_pos (nI_le hk (by omega))]
