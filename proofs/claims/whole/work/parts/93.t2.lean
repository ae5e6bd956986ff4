/-! the class's determinant -/
abbrev FrJ (σ σ' : Sg) : Prop := Fr [] [] [30, 31, 32, 33, 34] σ σ'
theorem memJ {i : Nat} (h : i < 5) : 30 + i ∈ [30, 31, 32, 33, 34] := by
  have : i = 0 ∨ i = 1 ∨ i = 2 ∨ i = 3 ∨ i = 4 := by omega
  rcases this with rfl | rfl | rfl | rfl | rfl <;> simp
def St (σ : Sg) (M : Nat → Nat → Int) (s k i0 j0 : Nat) : Prop := ∀ i j, k ≤ i → i < s → k ≤ j → j < s → gJ σ (30 + i) j = Int64.ofInt (if k < i ∧ k < j ∧ (i < i0 ∨ (i = i0 ∧ j < j0)) then mn M (k + 1) i j else mn M k i j)
theorem St.cg {σ : Sg} {M : Nat → Nat → Int} {s k i0 j0 i1 j1 : Nat} (h : St σ M s k i0 j0) (e : ∀ i j, k ≤ i → i < s → k ≤ j → j < s → ((k < i ∧ k < j ∧ (i < i0 ∨ (i = i0 ∧ j < j0))) ↔ (k < i ∧ k < j ∧ (i < i1 ∨ (i = i1 ∧ j < j1))))) : St σ M s k i1 j1 := by
  intro i j h1 h2 h3 h4
  rw [h i j h1 h2 h3 h4]
  have := e i j h1 h2 h3 h4
  by_cases c : k < i ∧ k < j ∧ (i < i0 ∨ (i = i0 ∧ j < j0))
  · rw [if_pos c, if_pos (this.mp c)]
  · rw [if_neg c, if_neg (fun q => c (this.mpr q))]
theorem det_row {σ : Sg} {M : Nat → Nat → Int} {s k i : Nat} (hM : ∀ i j, i < s → j < s → (M i j).natAbs ≤ 45) (hs : s ≤ 5) (h15 : gI σ 15 = nI s) (hk : k + 1 < s) (hD : Dk M k ≠ 0) (hki : k < i) (hi : i < s) (h : St σ M s k i (k + 1)) : ∃ σ', wl (fun a : Int32 × Sg => f_X0_determinant_B52 (Int64.ofInt (Dk M k)) (nI k) (Int64.ofInt (mn M k k k)) (nI i) a.1 a.2) FU (nI (k + 1), σ) = some σ' ∧ (FrJ σ σ' ∧ St σ' M s k (i + 1) (k + 1)) := by
  refine wl_inv (N := s - (k + 1)) (I := fun t (a : Int32 × Sg) => a.1 = nI (k + 1 + t) ∧ FrJ σ a.2 ∧ St a.2 M s k i (k + 1 + t)) (fun t a ht hI => ?_) FU 0 (nI (k + 1), σ) ⟨rfl, Fr.rf, h⟩ (Nat.zero_le _) (FU_big (by omega))
  obtain ⟨x, σ1⟩ := a
  obtain ⟨hx, hF, hS⟩ := hI
  dsimp only at hx hF hS ⊢
  subst hx
  have h15' : gI σ1 15 = nI s := (hF.1 15 (by simp)).trans h15
  by_cases he : t = s - (k + 1)
  · refine ⟨.inr σ1, ?_, Or.inr ⟨σ1, rfl, hF, hS.cg (fun a b _ _ _ _ => by omega)⟩⟩
    unfold f_X0_determinant_B52
    rw [h15', if_pos (nI_le (by omega) (by omega))]
  · have hj : k + 1 + t < s := by omega
    have b5 := D_bd hM (k := k) (by omega)
    have c2 := bd_le (k := k) (by omega)
    have e1 := hS i (k + 1 + t) (by omega) hi (by omega) hj
    rw [if_neg (by omega)] at e1
    have e2 := hS i k (by omega) hi (by omega) (by omega)
    rw [if_neg (by omega)] at e2
    have e3 := hS k (k + 1 + t) (by omega) (by omega) (by omega) hj
    rw [if_neg (by omega)] at e3
    refine ⟨.inl (nI (k + 1 + (t + 1)), pJ σ1 (30 + i) (k + 1 + t) (Int64.ofInt (mn M (k + 1) i (k + 1 + t)))), ?_, Or.inl ⟨_, rfl, by omega, rfl, hF.tr (Fr.pJ (memJ (by omega))), fun a b h1 h2 h3 h4 => ?_⟩⟩
    · unfold f_X0_determinant_B52
      rw [h15', if_neg (nI_ge hj (by omega)), gd_h (okI_nI (by omega) (by omega)), gd_h (okI_nI (by omega) (by omega)), gd_h (okI_nI (by omega) (by omega)), gd_h (okI_nI (by omega) (by omega)), gd_h (okI_nI (by omega) (by omega)), gd_h (okI_nI (by omega) (by omega)), gd_h (okI_nI (by omega) (by omega)), gd_h (decide_eq_true (ofI_ne (by omega) hD)), nI_clamp (by omega), nI_clamp (by omega), nI_clamp (by omega), e1, e2, e3, bar_step hM hk hs hi hj hD, vl_e, gd_h (okI_nI (by omega) (by omega)), vl_e, vl_e, nI_1]
      rfl
    · dsimp only
      rw [gJ_pJ]
      by_cases ca : a = i
      · subst ca
        rw [if_pos rfl, updL_at]
        by_cases cb : b = k + 1 + t
        · subst cb
          rw [if_pos rfl, if_pos (by omega)]
        · rw [if_neg cb, hS a b h1 h2 h3 h4]
          by_cases cc : k < a ∧ k < b ∧ (a < a ∨ (a = a ∧ b < k + 1 + t))
          · rw [if_pos cc, if_pos (by omega)]
          · rw [if_neg cc, if_neg (by omega)]
      · rw [if_neg (by omega), hS a b h1 h2 h3 h4]
        by_cases cc : k < a ∧ k < b ∧ (a < i ∨ (a = i ∧ b < k + 1 + t))
        · rw [if_pos cc, if_pos (by omega)]
        · rw [if_neg cc, if_neg (by omega)]
theorem det_rows {σ : Sg} {M : Nat → Nat → Int} {s k : Nat} (hM : ∀ i j, i < s → j < s → (M i j).natAbs ≤ 45) (hs : s ≤ 5) (h15 : gI σ 15 = nI s) (hk : k + 1 < s) (hD : Dk M k ≠ 0) (h : St σ M s k 0 0) : ∃ σ', wl (fun a : Int32 × Sg => f_X0_determinant_B38 (Int64.ofInt (Dk M k)) (nI k) (Int64.ofInt (mn M k k k)) a.1 a.2) FU (nI (k + 1), σ) = some σ' ∧ (FrJ σ σ' ∧ St σ' M s (k + 1) 0 0) := by
  refine wl_inv (N := s - (k + 1)) (I := fun t (a : Int32 × Sg) => a.1 = nI (k + 1 + t) ∧ FrJ σ a.2 ∧ St a.2 M s k (k + 1 + t) (k + 1)) (fun t a ht hI => ?_) FU 0 (nI (k + 1), σ) ⟨rfl, Fr.rf, h.cg (fun a b _ _ _ _ => by omega)⟩ (Nat.zero_le _) (FU_big (by omega))
  obtain ⟨x, σ1⟩ := a
  obtain ⟨hx, hF, hS⟩ := hI
  dsimp only at hx hF hS ⊢
  subst hx
  have h15' : gI σ1 15 = nI s := (hF.1 15 (by simp)).trans h15
  by_cases he : t = s - (k + 1)
  · refine ⟨.inr σ1, ?_, Or.inr ⟨σ1, rfl, hF, fun a b h1 h2 h3 h4 => ?_⟩⟩
    · unfold f_X0_determinant_B38
      rw [h15', if_pos (nI_le (by omega) (by omega))]
    · rw [hS a b (by omega) h2 (by omega) h4, if_pos (by omega), if_neg (by omega)]
  · obtain ⟨σ2, g1, g2, g3⟩ := det_row hM hs h15' hk hD (show k < k + 1 + t by omega) (by omega) hS
    refine ⟨.inl (nI (k + 1 + (t + 1)), σ2), ?_, Or.inl ⟨_, rfl, by omega, rfl, hF.tr g2, g3⟩⟩
    unfold f_X0_determinant_B38
    rw [h15', if_neg (nI_ge (by omega) (by omega)), vl_e, nI_1, g1, Option.bind_some, vl_e, nI_1]
    rfl
theorem f_det_yes {σ : Sg} {M : Nat → Nat → Int} {s : Nat} (hM : ∀ i j, i < s → j < s → (M i j).natAbs ≤ 45) (hs1 : 1 ≤ s) (hs : s ≤ 5) (h15 : gI σ 15 = nI s) (h : ∀ i j, i < s → j < s → gJ σ (30 + i) j = Int64.ofInt (M i j)) : ∃ z σ', f_X0_determinant σ = some (z, σ') ∧ FrJ σ σ' ∧ ((z = Int64.ofInt (Dk M s) ∧ ∀ k, k + 1 < s → Dk M (k + 1) ≠ 0) ∨ (z = 0 ∧ ∃ k, k + 1 < s ∧ Dk M (k + 1) = 0)) := by
  unfold f_X0_determinant
  have key := wl_inv (body := fun a : Int64 × Int32 × Sg => f_X0_determinant_B4 a.1 a.2.1 a.2.2) (N := s - 1) (I := fun k (a : Int64 × Int32 × Sg) => a.1 = Int64.ofInt (Dk M k) ∧ a.2.1 = nI k ∧ FrJ σ a.2.2 ∧ St a.2.2 M s k 0 0 ∧ Dk M k ≠ 0 ∧ ∀ t, t < k → Dk M (t + 1) ≠ 0) (Post := fun b : Sg ⊕ (Int64 × Sg) => (∃ σ1, b = .inl σ1 ∧ FrJ σ σ1 ∧ gJ σ1 (30 + (s - 1)) (s - 1) = Int64.ofInt (Dk M s) ∧ ∀ k, k + 1 < s → Dk M (k + 1) ≠ 0) ∨ (∃ σ1, b = .inr (0, σ1) ∧ FrJ σ σ1 ∧ ∃ k, k + 1 < s ∧ Dk M (k + 1) = 0)) (fun k a hk hI => ?_) FU 0 ((1 : Int64), (0 : Int32), σ) ⟨rfl, rfl, Fr.rf, fun i j _ h2 _ h4 => by rw [h i j h2 h4, if_neg (by omega), mn_0], (by show (1 : Int) ≠ 0; decide), fun t ht => by omega⟩ (Nat.zero_le _) (FU_big (by omega))
  · obtain ⟨b, k1, k2⟩ := key
    rw [k1, Option.bind_some]
    rcases k2 with ⟨σ1, rfl, q1, q2, q3⟩ | ⟨σ1, rfl, q1, q2⟩
    · refine ⟨Int64.ofInt (Dk M s), σ1, ?_, q1, Or.inl ⟨rfl, q3⟩⟩
      have h15' : gI σ1 15 = nI s := (q1.1 15 (by simp)).trans h15
      dsimp only [Sum.elim_inl]
      rw [h15', il_0, if_neg (nI_ge (by omega) (by omega)), il_1, pk_sub hs1, gd_h (okI_nI (by omega) (by omega)), gd_h (okI_nI (by omega) (by omega)), nI_clamp (by omega), q2]
    · exact ⟨0, σ1, rfl, q1, Or.inr ⟨rfl, q2⟩⟩
  · obtain ⟨x, y, σ1⟩ := a
    obtain ⟨hx, hy, hF, hS, hD, hA⟩ := hI
    dsimp only at hx hy hF hS hD hA ⊢
    subst hx
    subst hy
    have h15' : gI σ1 15 = nI s := (hF.1 15 (by simp)).trans h15
    have ekk : k < s → gJ σ1 (30 + k) k = Int64.ofInt (mn M k k k) := fun hks => by
      rw [hS k k (by omega) hks (by omega) hks, if_neg (by omega)]
    by_cases he : k = s - 1
    · refine ⟨.inr (.inl σ1), ?_, Or.inr ⟨_, rfl, Or.inl ⟨σ1, rfl, hF, ?_, fun t ht => hA t (by omega)⟩⟩⟩
      · unfold f_X0_determinant_B4
        rw [h15', nI_1, if_pos (nI_le (by omega) (by omega))]
      · rw [← he, ekk (by omega), mn_D, show k + 1 = s by omega]
    · have hks : k + 1 < s := by omega
      have b1 := mn_bd hM (k := k) (i := k) (j := k) (by omega) (by omega) (by omega)
      have c1 := bd_le (k := k + 1) (by omega)
      by_cases hz : Dk M (k + 1) = 0
      · refine ⟨.inr (.inr (0, σ1)), ?_, Or.inr ⟨_, rfl, Or.inr ⟨σ1, rfl, hF, k, hks, hz⟩⟩⟩
        unfold f_X0_determinant_B4
        rw [h15', nI_1, if_neg (nI_ge (by omega) (by omega)), gd_h (okI_nI (by omega) (by omega)), gd_h (okI_nI (by omega) (by omega)), nI_clamp (by omega), ekk (by omega), vl_e, mn_D, hz, if_pos (by rfl)]
      · obtain ⟨σ2, g1, g2, g3⟩ := det_rows hM hs h15' hks hD hS
        refine ⟨.inl (Int64.ofInt (Dk M (k + 1)), nI (k + 1), σ2), ?_, Or.inl ⟨_, rfl, by omega, rfl, rfl, hF.tr g2, g3, hz, fun t ht => ?_⟩⟩
        · unfold f_X0_determinant_B4
          rw [h15', nI_1, if_neg (nI_ge (by omega) (by omega)), gd_h (okI_nI (by omega) (by omega)), gd_h (okI_nI (by omega) (by omega)), nI_clamp (by omega), ekk (by omega), vl_e, if_neg (ofI_ne (by omega) (by rw [mn_D]; exact hz)), vl_e, g1, Option.bind_some, vl_e, mn_D]
        · by_cases c : t = k
          · rw [c]
            exact hz
          · exact hA t (by omega)
