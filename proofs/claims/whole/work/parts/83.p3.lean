theorem f_adds_yes {σ : Sg} {r u v wd : Nat} {L A B : List (Nat × Nat × Nat)} (hr : r + 31 ≤ 496) (h : RowAt σ r L) (hL : L = A ++ B) (hlen : L.length < 10) (hb : ∀ e ∈ L, e.1 < 6 ∧ e.2.1 < 6) (hu : u < 6) (hv : v < 6) (hA : ∀ e ∈ A, lk e ≤ 6 * min u v + max u v) (hB : ∀ e ∈ B, 6 * min u v + max u v < lk e) : ∃ σ', f_X7_adds σ (nI r) (nI u) (nI v) (nI wd) = some σ' ∧ Fr [] [46] [] σ σ' ∧ RowAt σ' r (A ++ (min u v, max u v, wd) :: B) ∧ ∀ q, (q < r ∨ r + 31 ≤ q) → gA σ' 46 q = gA σ 46 q := by
  have main : ∀ lo hi : Nat, lo = min u v → hi = max u v → ∃ σ', f_X7_adds_J10 σ (nI r) (nI u) (nI v) (nI wd) (nI lo) = some σ' ∧ Fr [] [46] [] σ σ' ∧ RowAt σ' r (A ++ (lo, hi, wd) :: B) ∧ ∀ q, (q < r ∨ r + 31 ≤ q) → gA σ' 46 q = gA σ 46 q := by
    intro lo hi hlo hhi
    have hsum : nI u + nI v - nI lo = nI hi := by rw [nI_add, pk_sub (by omega), show u + v - lo = hi by omega]
    have hlenAB : L.length = A.length + B.length := by rw [hL, List.length_append]
    unfold f_X7_adds_J10
    rw [vl_e, hsum, il_0, nI_add, Nat.add_zero, gd_h (okI_nI (by omega) (by omega)), nI_clamp (by omega), vl_e, h.1]
    have key := wl_inv (body := fun a : Int32 × Sg => f_X7_adds_B30 (nI r) (nI lo) (nI hi) a.1 a.2) (N := B.length) (I := fun i (a : Int32 × Sg) => a.1 = nI (L.length - i) ∧ Fr [] [46] [] σ a.2 ∧ (∀ q, (q ≤ r ∨ r + 31 ≤ q) → gA a.2 46 q = gA σ 46 q) ∧ (∀ j e, j < L.length - i → L[j]? = some e → RecAt a.2 r j e) ∧ ∀ j e, L.length - i ≤ j → L[j]? = some e → RecAt a.2 r (j + 1) e) (Post := fun b : Int32 × Sg => b.1 = nI A.length ∧ Fr [] [46] [] σ b.2 ∧ (∀ q, (q ≤ r ∨ r + 31 ≤ q) → gA b.2 46 q = gA σ 46 q) ∧ (∀ j e, j < A.length → L[j]? = some e → RecAt b.2 r j e) ∧ ∀ j e, A.length ≤ j → L[j]? = some e → RecAt b.2 r (j + 1) e) (fun i a hi2 hI => ?_) FU 0 (nI L.length, σ) ⟨rfl, Fr.rf, fun q _ => rfl, fun j e _ hj => h.2 j e hj, fun j e h1 hj => by have := (List.getElem?_eq_some_iff.mp hj).1; omega⟩ (Nat.zero_le _) (FU_big (by omega))
    · obtain ⟨⟨x, σ1⟩, h1, hx, hF, hout, hlow, hhigh⟩ := key
      dsimp only at hx hF hout hlow hhigh
      subst hx
      rw [h1, Option.bind_some, il_1, il_11, il_21]
      dsimp only
      rw [nI_add, nI_add, gd_h (okI_nI (by omega) (by omega)), nI_clamp (by omega), vl_e, nI_add, nI_add, gd_h (okI_nI (by omega) (by omega)), nI_clamp (by omega), vl_e, nI_add, nI_add, gd_h (okI_nI (by omega) (by omega)), nI_clamp (by omega), vl_e]
      rw [show pA (pA (pA σ1 46 (r + 1 + A.length) (nI lo)) 46 (r + 11 + A.length) (nI hi)) 46 (r + 21 + A.length) (nI wd) = setL σ1 r A.length (lo, hi, wd) from rfl]
      rw [gd_h (okI_nI (by omega) (by omega)), setL_out (by omega) (by omega), hout r (Or.inl (Nat.le_refl _)), h.1, vl_e, gd_h (okI_nI (by omega) (by omega)), vl_e, nI_add]
      refine ⟨_, rfl, (hF.tr setL_fr).tr (Fr.pA (by simp)), ⟨?_, fun j e hj => ?_⟩, fun q hq => ?_⟩
      · rw [gA_pA, if_pos rfl, upd_at, if_pos rfl, List.length_append, List.length_cons, hlenAB]
        rfl
      · have hrec : RecAt (setL σ1 r A.length (lo, hi, wd)) r j e := by
          by_cases c : j < A.length
          · rw [List.getElem?_append_left c] at hj
            exact setL_far (by omega) (by omega) (by omega) (hlow j e c (by rw [hL, List.getElem?_append_left c]; exact hj))
          · rw [List.getElem?_append_right (by omega)] at hj
            by_cases c2 : j = A.length
            · subst c2
              rw [Nat.sub_self] at hj
              cases hj
              exact setL_self
            · obtain ⟨d, hd⟩ : ∃ d, j - A.length = d + 1 := ⟨j - A.length - 1, by omega⟩
              rw [hd, List.getElem?_cons_succ] at hj
              have hjlt : d < B.length := (List.getElem?_eq_some_iff.mp hj).1
              have hg := hhigh (A.length + d) e (by omega) (by rw [hL, List.getElem?_append_right (by omega), show A.length + d - A.length = d by omega]; exact hj)
              rw [show A.length + d + 1 = j by omega] at hg
              exact setL_far (by omega) (by omega) c2 hg
        obtain ⟨q1, q2, q3⟩ := hrec
        unfold RecAt
        rw [gA_pA, if_pos rfl, upd_at, upd_at, upd_at, if_neg (by omega), if_neg (by omega), if_neg (by omega)]
        exact ⟨q1, q2, q3⟩
      · rw [gA_pA, if_pos rfl, upd_at, if_neg (by omega), setL_out (by omega) (by omega)]
        exact hout q (by omega)
    · obtain ⟨x, σ1⟩ := a
      obtain ⟨hx, hF, hout, hlow, hhigh⟩ := hI
      dsimp only at hx hF hout hlow hhigh ⊢
      subst hx
      by_cases he : i = B.length
      · subst he
        have hAl : L.length - B.length = A.length := by omega
        rw [hAl] at hlow hhigh ⊢
        refine ⟨_, adds_stop hr (by omega) (by omega) (by omega) ?_, Or.inr ⟨_, rfl, rfl, hF, hout, hlow, hhigh⟩⟩
        by_cases c : A.length = 0
        · exact Or.inl c
        · have hlt : A.length - 1 < L.length := by omega
          have hg : L[A.length - 1]? = some L[A.length - 1] := List.getElem?_eq_getElem hlt
          have hmA : L[A.length - 1] ∈ A := by
            have : A[A.length - 1]? = some L[A.length - 1] := by rw [← hg, hL, List.getElem?_append_left (by omega)]
            exact List.mem_of_getElem? this
          have hbb := hb _ (List.mem_of_getElem? hg)
          exact Or.inr ⟨_, hlow _ _ (by omega) hg, hbb.1, hbb.2, by have := hA _ hmA; omega⟩
      · obtain ⟨x, hx⟩ : ∃ x, x = L.length - i - 1 := ⟨_, rfl⟩
        have hlt : x < L.length := by omega
        obtain ⟨e0, hg⟩ : ∃ e0, L[x]? = some e0 := ⟨_, List.getElem?_eq_getElem hlt⟩
        have hmB : e0 ∈ B := by
          have q := hg
          rw [hL, List.getElem?_append_right (by omega)] at q
          exact List.mem_of_getElem? q
        have hbb := hb _ (List.mem_of_getElem? hg)
        refine ⟨_, adds_go hr (show 1 ≤ L.length - i by omega) (by omega) (show RecAt σ1 r (L.length - i - 1) e0 by rw [← hx]; exact hlow _ _ (by omega) hg) hbb (by omega) (by omega) (by have := hB _ hmB; omega), Or.inl ⟨_, rfl, by omega, by rw [show L.length - i - 1 = L.length - (i + 1) by omega], hF.tr setL_fr, fun q hq => ?_, fun j e hj hje => ?_, fun j e hj hje => ?_⟩⟩
        · dsimp only
          rw [setL_out (by omega) hq]
          exact hout q hq
        · dsimp only
          exact setL_far (by omega) (by omega) (by omega) (hlow j e (by omega) hje)
        · dsimp only
          have hjl : j < L.length := (List.getElem?_eq_some_iff.mp hje).1
          by_cases c : j = x
          · subst c
            rw [hg] at hje
            cases hje
            rw [show j + 1 = L.length - i by omega]
            exact setL_self
          · exact setL_far (by omega) (by omega) (by omega) (hhigh j e (by omega) hje)
  unfold f_X7_adds
  by_cases c : v ≤ u
  · rw [if_pos (nI_le c (by omega))]
    have := main v u (by omega) (by omega)
    rw [show min u v = v by omega, show max u v = u by omega]
    exact this
  · rw [if_neg (nI_ge (by omega) (by omega))]
    have := main u v (by omega) (by omega)
    rw [show min u v = u by omega, show max u v = v by omega]
    exact this
/-- the reference's notes -/
theorem f_notes_yes {σ : Sg} {c : Nat} (h : gI σ 18 = nI c) (hc : c ≤ 12) : ∃ σ', f_X7_notes σ = some σ' ∧ Fr [18] [46] [] σ σ' ∧ gI σ' 18 = nI (if c = 12 then 12 else c + 1) ∧ (∀ j, j < 31 → gA σ' 46 j = gA σ 46 j) ∧ (∀ j, 403 ≤ j → gA σ' 46 j = gA σ 46 j) ∧ (c < 12 → (∀ j, j < 31 + 31 * c → gA σ' 46 j = gA σ 46 j) ∧ ∀ i, i < 31 → gA σ' 46 (31 + 31 * c + i) = gA σ 46 i) ∧ (c = 12 → (∀ j, 31 ≤ j → j < 372 → gA σ' 46 j = gA σ 46 (j + 31)) ∧ ∀ i, i < 31 → gA σ' 46 (372 + i) = gA σ 46 i) := by
  unfold f_X7_notes
  by_cases hc12 : c = 12
  · subst hc12
    have key := wl_inv (body := fun a : Int32 × Sg => f_X7_notes_B2 a.1 a.2) (N := 341) (I := fun i (a : Int32 × Sg) => a.1 = nI i ∧ Fr [] [46] [] σ a.2 ∧ (∀ j, 31 ≤ j → j < 31 + i → gA a.2 46 j = gA σ 46 (j + 31)) ∧ ∀ j, (j < 31 ∨ 31 + i ≤ j) → gA a.2 46 j = gA σ 46 j) (Post := fun b : Sg => Fr [] [46] [] σ b ∧ (∀ j, 31 ≤ j → j < 372 → gA b 46 j = gA σ 46 (j + 31)) ∧ ∀ j, (j < 31 ∨ 372 ≤ j) → gA b 46 j = gA σ 46 j) (fun i a hi hI => ?_) FU 0 ((0 : Int32), σ) ⟨rfl, Fr.rf, fun j h1 h2 => by omega, fun j _ => rfl⟩ (Nat.zero_le _) (FU_big (by omega))
    · obtain ⟨σ1, h1, hF, hsh, hout⟩ := key
      have h18 : gI σ1 18 = nI 12 := (hF.1 _ (by simp)).trans h
      rw [h1, Option.bind_some, h18, il_12, if_pos rfl]
      unfold f_X7_notes_J61
      rw [vl_e, vl_e, h18, il_1, pk_sub (by omega), gI_pI, if_pos rfl, il_31, pk_mul, nI_add, il_0]
      obtain ⟨σ2, g1, g2, g3, g4⟩ := f_copyRow_yes (σ := pI σ1 18 (nI (12 - 1))) (a := 0) (b := 31 + 31 * (12 - 1)) (by omega) (by omega) (by omega)
      rw [g1, Option.bind_some, vl_e, vl_e]
      have g18 : gI σ2 18 = nI 11 := by rw [g2.1 _ (by simp), gI_pI, if_pos rfl]
      rw [g18, nI_add]
      refine ⟨_, rfl, (((Fr.mono hF (by simp) (by simp) (by simp)).tr (Fr.pI (by simp))).tr (Fr.mono g2 (by simp) (by simp) (by simp))).tr (Fr.pI (by simp)), by rw [gI_pI, if_pos rfl]; rfl, fun j hj => ?_, fun j hj => ?_, fun q => by omega, fun _ => ⟨fun j h1 h2 => ?_, fun i hi => ?_⟩⟩
      · rw [gA_pI, g4 j (by omega), gA_pI]; exact hout j (by omega)
      · rw [gA_pI, g4 j (by omega), gA_pI]; exact hout j (by omega)
      · rw [gA_pI, g4 j (by omega), gA_pI]; exact hsh j h1 h2
      · have := g3 i hi
        rw [gA_pI, show 372 + i = 31 + 31 * (12 - 1) + i by omega, this, gA_pI]
        rw [show 0 + i = i by omega]
        exact hout i (by omega)
    · obtain ⟨x, σ1⟩ := a
      obtain ⟨hx, hF, hsh, hout⟩ := hI
      dsimp only at hx hF hsh hout ⊢
      subst hx
      have h18 : gI σ1 18 = nI 12 := (hF.1 _ (by simp)).trans h
      unfold f_X7_notes_B2
      rw [il_341]
      by_cases he : i = 341
      · subst he
        exact ⟨.inr σ1, by rw [if_pos (nI_le (Nat.le_refl _) (by omega))], Or.inr ⟨σ1, rfl, hF, hsh, hout⟩⟩
      · refine ⟨_, by rw [if_neg (nI_ge (show i < 341 by omega) (by omega)), h18, il_12, if_pos rfl, il_62, il_31, nI_add, nI_add, gd_h (okI_nI (by omega) (by omega)), vl_e, gd_h (okI_nI (by omega) (by omega)), vl_e, vl_e, nI_1, nI_clamp (by omega), nI_clamp (by omega)], Or.inl ⟨_, rfl, by omega, rfl, hF.tr (Fr.pA (List.mem_singleton.mpr rfl)), fun j h1 h2 => ?_, fun j hj => ?_⟩⟩
        · dsimp only
          rw [gA_pA, if_pos rfl, upd_at]
          by_cases c : j = 31 + i
          · rw [if_pos c, hout _ (by omega), c, show 31 + i + 31 = 62 + i by omega]
          · rw [if_neg c]
            exact hsh j h1 (by omega)
        · dsimp only
          rw [gA_pA, if_pos rfl, upd_at, if_neg (by omega)]
          exact hout j (by omega)
  · have hb : f_X7_notes_B2 (0 : Int32) σ = some (.inr σ) := by
      unfold f_X7_notes_B2
      rw [if_neg (by decide), h, il_12, if_neg (by rw [nI_eq (by omega) (by omega)]; exact hc12)]
    have hw : wl (fun a : Int32 × Sg => f_X7_notes_B2 a.1 a.2) FU ((0 : Int32), σ) = some σ := wl_run (st := fun _ => ((0 : Int32), σ)) 0 (fun i hi => by omega) hb FU (FU_big (by omega))
    rw [hw, Option.bind_some, h, il_12, if_neg (by rw [nI_eq (by omega) (by omega)]; exact hc12)]
    unfold f_X7_notes_J61
    rw [vl_e, vl_e, h, il_0, pk_sub (by omega), Nat.sub_zero, gI_pI, if_pos rfl, il_31, pk_mul, nI_add]
    obtain ⟨σ2, g1, g2, g3, g4⟩ := f_copyRow_yes (σ := pI σ 18 (nI c)) (a := 0) (b := 31 + 31 * c) (by omega) (by omega) (by omega)
    rw [g1, Option.bind_some, vl_e, vl_e]
    have g18 : gI σ2 18 = nI c := by rw [g2.1 _ (by simp), gI_pI, if_pos rfl]
    rw [g18, nI_1, if_neg hc12]
    refine ⟨_, rfl, ((Fr.pI (by simp)).tr (Fr.mono g2 (by simp) (by simp) (by simp))).tr (Fr.pI (by simp)), by rw [gI_pI, if_pos rfl], fun j hj => ?_, fun j hj => ?_, fun _ => ⟨fun j hj => ?_, fun i hi => ?_⟩, fun q => absurd q hc12⟩
    · rw [gA_pI, g4 j (by omega), gA_pI]
    · rw [gA_pI, g4 j (by omega), gA_pI]
    · rw [gA_pI, g4 j (by omega), gA_pI]
    · rw [gA_pI, g3 i hi, gA_pI, Nat.zero_add]
