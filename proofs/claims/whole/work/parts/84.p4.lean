/-! THE INVARIANT -/
def Past (σ : Sg) (n : Nat) : (Nat → Nat → Nat) → List (Nat × Nat × Nat) → Prop
  | _, [] => True
  | w, e :: H => gA σ 25 H.length = nI e.1 ∧ gA σ 26 H.length = nI e.2.1 ∧ gA σ 27 H.length = nI e.2.2 ∧ (e.1 < n ∧ e.2.1 < n ∧ e.1 ≠ e.2.1) ∧ wok n (w2 w e.1 e.2.1 e.2.2) ∧ RowAt σ (31 + 31 * H.length) (Ln n (w2 w e.1 e.2.1 e.2.2)) ∧ Past σ n (w2 w e.1 e.2.1 e.2.2) H
def Img (σ : Sg) (n j : Nat) : Prop := (gA σ 44 j = 0 ∧ gA σ 47 j = 0) ∨ (gA σ 44 j = 1 ∧ gA σ 47 j = 1 ∧ ∃ wj, wok n wj ∧ NetAt σ (3 + j) n wj ∧ RowAt σ (403 + 31 * j) (Ln n wj))
def WR (σ : Sg) : Prop := (gR σ 0 = 37 ∧ gR σ 1 = 38) ∨ (gR σ 0 = 38 ∧ gR σ 1 = 37)
def Txt (σ : Sg) (len : Nat) : Prop := len ≤ 80 ∧ gI σ 1 = nI len ∧ gI σ 19 = nI len ∧ ∀ i, i < len → gA σ 2 i = gA σ 48 i
def Sn (σ : Sg) (c : Nat) : Prop := c ≤ 6 ∧ gI σ 0 = nI c ∧ gI σ 20 = nI c ∧ ∀ i, i < c → gJ σ 42 i = gJ σ 49 i
def Cur (σ : Sg) (n : Nat) (w : Nat → Nat → Nat) : Prop := wok n w ∧ NetAt σ 0 n w ∧ gI σ 17 = nI n ∧ RowAt σ 0 (Ln n w)
def Hst (σ : Sg) (n : Nat) (w : Nat → Nat → Nat) (H : List (Nat × Nat × Nat)) : Prop := H.length ≤ 12 ∧ gI σ 14 = nI H.length ∧ gI σ 18 = nI H.length ∧ Past σ n w H
def InvP (σ : Sg) (n : Nat) (w : Nat → Nat → Nat) (H : List (Nat × Nat × Nat)) (c len : Nat) : Prop := Cur σ n w ∧ Hst σ n w H ∧ (Img σ n 0 ∧ Img σ n 1) ∧ Txt σ len ∧ Sn σ c ∧ WR σ
def Inv (σ : Sg) : Prop := ∃ n w H c len, InvP σ n w H c len
theorem NetAt.cg {σ σ' : Sg} {k n : Nat} {w : Nat → Nat → Nat} (h : NetAt σ k n w) (h1 : gI σ' (4 + 2 * k) = gI σ (4 + 2 * k)) (h2 : gI σ' (5 + 2 * k) = gI σ (5 + 2 * k)) (h3 : gA σ' (4 + 4 * k) = gA σ (4 + 4 * k)) (h4 : gA σ' (5 + 4 * k) = gA σ (5 + 4 * k)) (h5 : gA σ' (6 + 4 * k) = gA σ (6 + 4 * k)) : NetAt σ' k n w := by
  unfold NetAt
  rw [h1, h2, h3, h4, h5]
  exact h
theorem RowAt.cg {σ σ' : Sg} {r : Nat} {L : List (Nat × Nat × Nat)} (h : RowAt σ r L) (h1 : gA σ' 46 = gA σ 46) : RowAt σ' r L := by
  unfold RowAt RecAt
  rw [h1]
  exact h
theorem Past.cg {σ σ' : Sg} {n : Nat} (h1 : gA σ' 25 = gA σ 25) (h2 : gA σ' 26 = gA σ 26) (h3 : gA σ' 27 = gA σ 27) (h4 : ∀ L r, 31 ≤ r → r + 31 ≤ 403 → L.length ≤ 10 → RowAt σ r L → RowAt σ' r L) : ∀ {H : List (Nat × Nat × Nat)} {w : Nat → Nat → Nat}, H.length ≤ 12 → Past σ n w H → Past σ' n w H
  | [], _, _, _ => trivial
  | e :: H, w, hl, h => by
    obtain ⟨a1, a2, a3, a4, a5, a6, a7⟩ := h
    simp only [List.length_cons] at hl
    exact ⟨by rw [h1]; exact a1, by rw [h2]; exact a2, by rw [h3]; exact a3, a4, a5, h4 _ _ (by omega) (by omega) a5.2.2.2.2.2 a6, Past.cg h1 h2 h3 h4 (by omega) a7⟩
theorem Img.cg {σ σ' : Sg} {n j : Nat} (h : Img σ n j) (h1 : gA σ' 44 j = gA σ 44 j) (h2 : gA σ' 47 j = gA σ 47 j) (h3 : ∀ w, NetAt σ (3 + j) n w → NetAt σ' (3 + j) n w) (h4 : ∀ L, L.length ≤ 10 → RowAt σ (403 + 31 * j) L → RowAt σ' (403 + 31 * j) L) : Img σ' n j := by
  rcases h with ⟨a, b⟩ | ⟨a, b, wj, c1, c2, c3⟩
  · exact Or.inl ⟨by rw [h1]; exact a, by rw [h2]; exact b⟩
  · exact Or.inr ⟨by rw [h1]; exact a, by rw [h2]; exact b, wj, c1, h3 _ c2, h4 _ c1.2.2.2.2.2 c3⟩
/-- the same in all that lasts -/
def Sm (σ σ' : Sg) : Prop := (∀ i ∈ [0, 1, 4, 5, 10, 11, 12, 13, 14, 17, 18, 19, 20], gI σ' i = gI σ i) ∧ (∀ c ∈ [2, 4, 5, 6, 16, 17, 18, 20, 21, 22, 25, 26, 27, 44, 46, 47, 48], gA σ' c = gA σ c) ∧ (∀ c ∈ [42, 49], gJ σ' c = gJ σ c) ∧ WR σ'
theorem Sm.rf {σ : Sg} (h : WR σ) : Sm σ σ := ⟨fun _ _ => rfl, fun _ _ => rfl, fun _ _ => rfl, h⟩
theorem Sm.tr {σ σ1 σ2 : Sg} (h : Sm σ σ1) (g : Sm σ1 σ2) : Sm σ σ2 := ⟨fun i q => (g.1 i q).trans (h.1 i q), fun i q => (g.2.1 i q).trans (h.2.1 i q), fun i q => (g.2.2.1 i q).trans (h.2.2.1 i q), g.2.2.2⟩
theorem WR.cg {σ σ' : Sg} (h : WR σ) (e : ∀ i, gR σ' i = gR σ i) : WR σ' := by
  unfold WR
  rw [e, e]
  exact h
/-- only scratch is written -/
theorem Fr.sm {I A J : List Nat} {σ σ' : Sg} (h : Fr I A J σ σ') (hw : WR σ) (hI : ∀ i ∈ [0, 1, 4, 5, 10, 11, 12, 13, 14, 17, 18, 19, 20], i ∉ I) (hA : ∀ c ∈ [2, 4, 5, 6, 16, 17, 18, 20, 21, 22, 25, 26, 27, 44, 46, 47, 48], c ∉ A) (hJ : ∀ c ∈ [42, 49], c ∉ J) : Sm σ σ' := ⟨fun i q => h.1 i (hI i q), fun i q => h.2.1 i (hA i q), fun i q => h.2.2.1 i (hJ i q), hw.cg h.2.2.2⟩
theorem Cur.sm {σ σ' : Sg} {n : Nat} {w : Nat → Nat → Nat} (h : Cur σ n w) (s : Sm σ σ') : Cur σ' n w := ⟨h.1, h.2.1.cg (s.1 4 (by simp)) (s.1 5 (by simp)) (s.2.1 4 (by simp)) (s.2.1 5 (by simp)) (s.2.1 6 (by simp)), by rw [s.1 17 (by simp)]; exact h.2.2.1, h.2.2.2.cg (s.2.1 46 (by simp))⟩
theorem InvP.sm {σ σ' : Sg} {n c len : Nat} {w : Nat → Nat → Nat} {H : List (Nat × Nat × Nat)} (h : InvP σ n w H c len) (s : Sm σ σ') : InvP σ' n w H c len := by
  obtain ⟨hC, hH, hI, hT, hS, hR⟩ := h
  refine ⟨hC.sm s, ⟨hH.1, by rw [s.1 14 (by simp)]; exact hH.2.1, by rw [s.1 18 (by simp)]; exact hH.2.2.1, Past.cg (s.2.1 25 (by simp)) (s.2.1 26 (by simp)) (s.2.1 27 (by simp)) (fun L r _ _ _ q => q.cg (s.2.1 46 (by simp))) hH.1 hH.2.2.2⟩, ⟨?_, ?_⟩, ?_, ?_, s.2.2.2⟩
  · exact hI.1.cg (by rw [s.2.1 44 (by simp)]) (by rw [s.2.1 47 (by simp)]) (fun w q => q.cg (s.1 10 (by simp)) (s.1 11 (by simp)) (s.2.1 16 (by simp)) (s.2.1 17 (by simp)) (s.2.1 18 (by simp))) (fun L _ q => q.cg (s.2.1 46 (by simp)))
  · exact hI.2.cg (by rw [s.2.1 44 (by simp)]) (by rw [s.2.1 47 (by simp)]) (fun w q => q.cg (s.1 12 (by simp)) (s.1 13 (by simp)) (s.2.1 20 (by simp)) (s.2.1 21 (by simp)) (s.2.1 22 (by simp))) (fun L _ q => q.cg (s.2.1 46 (by simp)))
  · unfold Txt
    rw [s.1 1 (by simp), s.1 19 (by simp), s.2.1 2 (by simp), s.2.1 48 (by simp)]
    exact hT
  · unfold Sn
    rw [s.1 0 (by simp), s.1 20 (by simp), s.2.2.1 42 (by simp), s.2.2.1 49 (by simp)]
    exact hS
/-! letters, what was seen -/
theorem f_X7_type_bad {σ : Sg} {x : Int32} (h : x < 0 ∨ 255 < x) : f_X7_type σ x = some (-1, σ) := by
  unfold f_X7_type
  rw [show (0 : Int64) = (0 : Int32).toInt64 from rfl, show (255 : Int64) = (255 : Int32).toInt64 from rfl, f_in_i, if_pos h]
  rfl
theorem S_type (x : Int32) {σ : Sg} (h : Inv σ) : ∃ r σ1 σ2, f_X6_type σ x = some (r, σ1) ∧ f_X7_type σ1 x = some (r, σ2) ∧ Inv σ2 := by
  obtain ⟨n, w, H, c, len, hC, hH, hI, hT, hS, hR⟩ := h
  have hinv : Inv σ := ⟨n, w, H, c, len, hC, hH, hI, hT, hS, hR⟩
  by_cases h0 : x < 0
  · exact ⟨-1, σ, σ, by unfold f_X6_type; rw [if_pos h0], f_X7_type_bad (Or.inl h0), hinv⟩
  by_cases h1 : x ≤ 255
  · have h2 : ¬ (x < 0 ∨ 255 < x) := by
      rintro (q | q)
      · exact h0 q
      · exact absurd h1 (Int32.not_le.mpr q)
    obtain ⟨t1, t2, t3, t4⟩ := hT
    by_cases h80 : len = 80
    · subst h80
      refine ⟨-3, σ, σ, ?_, ?_, hinv⟩
      · unfold f_X6_type f_X4_takes
        rw [if_neg h0, if_pos h1, t2, il_80, if_neg (nI_nlt (Nat.le_refl _) (by omega)), Option.bind_some]
        rfl
      · unfold f_X7_type
        rw [show (0 : Int64) = (0 : Int32).toInt64 from rfl, show (255 : Int64) = (255 : Int32).toInt64 from rfl, f_in_i, if_neg h2, Option.bind_some, if_neg ne10, t3, il_80, if_pos rfl]
    · refine ⟨nI (len + 1), pI (pA σ 2 len x) 1 (nI (len + 1)), pI (pA (pI (pA σ 2 len x) 1 (nI (len + 1))) 48 len x) 19 (nI (len + 1)), ?_, ?_, ?_⟩
      · unfold f_X6_type f_X4_takes
        rw [if_neg h0, if_pos h1, t2, il_80, if_pos (nI_lt (show len < 80 by omega) (by omega)), gd_h (okI_nI (by omega) (by omega)), nI_clamp (by omega), vl_e, gI_pA, t2, vl_e, vl_e, Option.bind_some, nI_1, if_neg ne10, gI_pI, if_pos rfl]
      · unfold f_X7_type
        rw [show (0 : Int64) = (0 : Int32).toInt64 from rfl, show (255 : Int64) = (255 : Int32).toInt64 from rfl, f_in_i, if_neg h2, Option.bind_some, if_neg ne10, show gI (pI (pA σ 2 len x) 1 (nI (len + 1))) 19 = nI len from t3, il_80, if_neg (by rw [nI_eq (by omega) (by omega)]; exact h80), gd_h (okI_nI (by omega) (by omega)), nI_clamp (by omega), vl_e, show gI (pA (pI (pA σ 2 len x) 1 (nI (len + 1))) 48 len x) 19 = nI len from t3, vl_e, vl_e, nI_1, gI_pI, if_pos rfl]
      · refine ⟨n, w, H, c, len + 1, ?_, ?_, ?_, ⟨by omega, rfl, rfl, fun i hi => ?_⟩, hS, hR⟩
        · exact ⟨hC.1, hC.2.1.cg rfl rfl rfl rfl rfl, hC.2.2.1, hC.2.2.2.cg rfl⟩
        · exact ⟨hH.1, hH.2.1, hH.2.2.1, Past.cg (σ := σ) (by rfl) (by rfl) (by rfl) (fun L r _ _ _ q => q.cg (by rfl)) hH.1 hH.2.2.2⟩
        · exact ⟨Img.cg (σ := σ) hI.1 rfl rfl (fun w q => q.cg rfl rfl rfl rfl rfl) (fun L _ q => q.cg rfl), Img.cg (σ := σ) hI.2 rfl rfl (fun w q => q.cg rfl rfl rfl rfl rfl) (fun L _ q => q.cg rfl)⟩
        · show upd (gA σ 2) len x i = upd (gA σ 48) len x i
          rw [upd_at, upd_at]
          by_cases c1 : i = len
          · rw [if_pos c1, if_pos c1]
          · rw [if_neg c1, if_neg c1]
            exact t4 i (by omega)
  · exact ⟨-1, σ, σ, by unfold f_X6_type; rw [if_neg h0, if_neg h1], f_X7_type_bad (Or.inr (Int32.not_le.mp h1)), hinv⟩
theorem S_clear {σ : Sg} (h : Inv σ) : ∃ r σ1 σ2, f_X6_clear σ = some (r, σ1) ∧ f_X7_clear σ1 = some (r, σ2) ∧ Inv σ2 := by
  obtain ⟨n, w, H, c, len, hC, hH, hI, hT, hS, hR⟩ := h
  refine ⟨nI len, pI σ 1 0, pI (pI σ 1 0) 19 0, ?_, ?_, n, w, H, c, 0, ?_, ?_, ?_, ⟨by omega, rfl, rfl, fun i hi => by omega⟩, hS, hR⟩
  · unfold f_X6_clear
    rw [vl_e, vl_e, hT.2.1]
  · unfold f_X7_clear
    rw [vl_e, vl_e, gI_pI, if_neg (by decide), hT.2.2.1]
  · exact ⟨hC.1, hC.2.1.cg rfl rfl rfl rfl rfl, hC.2.2.1, hC.2.2.2.cg rfl⟩
  · exact ⟨hH.1, hH.2.1, hH.2.2.1, Past.cg (σ := σ) (by rfl) (by rfl) (by rfl) (fun L r _ _ _ q => q.cg (by rfl)) hH.1 hH.2.2.2⟩
  · exact ⟨Img.cg (σ := σ) hI.1 rfl rfl (fun w q => q.cg rfl rfl rfl rfl rfl) (fun L _ q => q.cg rfl), Img.cg (σ := σ) hI.2 rfl rfl (fun w q => q.cg rfl rfl rfl rfl rfl) (fun L _ q => q.cg rfl)⟩
theorem S_sees (x : Int64) {σ : Sg} (h : Inv σ) : ∃ r σ1 σ2, f_X6_sees σ x = some (r, σ1) ∧ f_X7_sees σ1 x = some (r, σ2) ∧ Inv σ2 := by
  obtain ⟨n, w, H, c, len, hC, hH, hI, hT, hS, hR⟩ := h
  have hinv : Inv σ := ⟨n, w, H, c, len, hC, hH, hI, hT, hS, hR⟩
  by_cases h0 : (0 : Int64) ≤ x
  · obtain ⟨t1, t2, t3, t4⟩ := hS
    by_cases h6 : c = 6
    · subst h6
      refine ⟨-3, σ, σ, ?_, ?_, hinv⟩
      · unfold f_X6_sees
        rw [if_pos h0, t2, il_6, if_neg (nI_nlt (Nat.le_refl _) (by omega))]
      · unfold f_X7_sees
        rw [if_pos h0, t3, il_6, if_pos rfl]
    · refine ⟨nI (c + 1), pI (pJ σ 42 c x) 0 (nI (c + 1)), pI (pJ (pI (pJ σ 42 c x) 0 (nI (c + 1))) 49 c x) 20 (nI (c + 1)), ?_, ?_, ?_⟩
      · unfold f_X6_sees
        rw [if_pos h0, t2, il_6, if_pos (nI_lt (show c < 6 by omega) (by omega)), gd_h (okI_nI (by omega) (by omega)), nI_clamp (by omega), vl_e, gI_pJ, t2, vl_e, vl_e, nI_1, gI_pI, if_pos rfl]
      · unfold f_X7_sees
        rw [if_pos h0, show gI (pI (pJ σ 42 c x) 0 (nI (c + 1))) 20 = nI c from t3, il_6, if_neg (by rw [nI_eq (by omega) (by omega)]; exact h6), gd_h (okI_nI (by omega) (by omega)), nI_clamp (by omega), vl_e, show gI (pJ (pI (pJ σ 42 c x) 0 (nI (c + 1))) 49 c x) 20 = nI c from t3, vl_e, vl_e, nI_1, gI_pI, if_pos rfl]
      · refine ⟨n, w, H, c + 1, len, ?_, ?_, ?_, hT, ⟨by omega, rfl, rfl, fun i hi => ?_⟩, hR⟩
        · exact ⟨hC.1, hC.2.1.cg rfl rfl rfl rfl rfl, hC.2.2.1, hC.2.2.2.cg rfl⟩
        · exact ⟨hH.1, hH.2.1, hH.2.2.1, Past.cg (σ := σ) (by rfl) (by rfl) (by rfl) (fun L r _ _ _ q => q.cg (by rfl)) hH.1 hH.2.2.2⟩
        · exact ⟨Img.cg (σ := σ) hI.1 rfl rfl (fun w q => q.cg rfl rfl rfl rfl rfl) (fun L _ q => q.cg rfl), Img.cg (σ := σ) hI.2 rfl rfl (fun w q => q.cg rfl rfl rfl rfl rfl) (fun L _ q => q.cg rfl)⟩
        · show vp_updL (gJ σ 42) c x i = vp_updL (gJ σ 49) c x i
          rw [updL_at, updL_at]
          by_cases c1 : i = c
          · rw [if_pos c1, if_pos c1]
          · rw [if_neg c1, if_neg c1]
            exact t4 i (by omega)
  · exact ⟨-1, σ, σ, by unfold f_X6_sees; rw [if_neg h0], by unfold f_X7_sees; rw [if_neg h0], hinv⟩
theorem S_forget {σ : Sg} (h : Inv σ) : ∃ r σ1 σ2, f_X6_forget σ = some (r, σ1) ∧ f_X7_forget σ1 = some (r, σ2) ∧ Inv σ2 := by
  obtain ⟨n, w, H, c, len, hC, hH, hI, hT, hS, hR⟩ := h
  refine ⟨nI c, pI σ 0 0, pI (pI σ 0 0) 20 0, ?_, ?_, n, w, H, 0, len, ?_, ?_, ?_, hT, ⟨by omega, rfl, rfl, fun i hi => by omega⟩, hR⟩
  · unfold f_X6_forget
    rw [vl_e, vl_e, hS.2.1]
  · unfold f_X7_forget
    rw [vl_e, vl_e, gI_pI, if_neg (by decide), hS.2.2.1]
  · exact ⟨hC.1, hC.2.1.cg rfl rfl rfl rfl rfl, hC.2.2.1, hC.2.2.2.cg rfl⟩
  · exact ⟨hH.1, hH.2.1, hH.2.2.1, Past.cg (σ := σ) (by rfl) (by rfl) (by rfl) (fun L r _ _ _ q => q.cg (by rfl)) hH.1 hH.2.2.2⟩
  · exact ⟨Img.cg (σ := σ) hI.1 rfl rfl (fun w q => q.cg rfl rfl rfl rfl rfl) (fun L _ q => q.cg rfl), Img.cg (σ := σ) hI.2 rfl rfl (fun w q => q.cg rfl rfl rfl rfl rfl) (fun L _ q => q.cg rfl)⟩
