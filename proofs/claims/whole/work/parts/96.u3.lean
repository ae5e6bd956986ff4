/-! unseen, worst, odds -/
def al (σ : Sg) (c x : Nat) : Bool := (List.range c).all (fun i => decide (gJ σ 49 i = lN x))
theorem f_allSeen_yes {σ : Sg} {c x : Nat} (hc : c ≤ 6) (h0 : gI σ 0 = nI c) (he : ∀ i, i < c → gJ σ 42 i = gJ σ 49 i) : f_X6_allSeenAre σ (lN x) = some (bI (al σ c x)) := by
  unfold f_X6_allSeenAre
  have key := wl_inv (body := fun a : Int32 => f_X6_allSeenAre_B2 σ (lN x) a) (N := c) (I := fun i (a : Int32) => a = nI i ∧ ∀ j, j < i → gJ σ 49 j = lN x) (Post := fun b : Unit ⊕ Int32 => (b = .inl () ∧ al σ c x = true) ∨ (b = .inr 0 ∧ al σ c x = false)) (fun i a hi hI => ?_) FU 0 (0 : Int32) ⟨rfl, fun j hj => by omega⟩ (Nat.zero_le _) (FU_big (by omega))
  · obtain ⟨b, k1, k2⟩ := key
    rw [k1, Option.bind_some]
    rcases k2 with ⟨rfl, q⟩ | ⟨rfl, q⟩
    · rw [q]
      rfl
    · rw [q]
      rfl
  · obtain ⟨rfl, hA⟩ := hI
    unfold f_X6_allSeenAre_B2
    rw [h0]
    by_cases hic : i = c
    · subst hic
      refine ⟨.inr (.inl ()), by rw [if_pos (nI_le (Nat.le_refl _) (by omega))], Or.inr ⟨_, rfl, Or.inl ⟨rfl, ?_⟩⟩⟩
      unfold al
      rw [List.all_eq_true]
      exact fun j hj => decide_eq_true (hA j (List.mem_range.mp hj))
    · have hlt : i < c := by omega
      by_cases cx : gJ σ 49 i = lN x
      · refine ⟨.inl (nI (i + 1)), ?_, Or.inl ⟨_, rfl, hlt, rfl, fun j hj => ?_⟩⟩
        · rw [if_neg (nI_ge hlt (by omega)), gd_h (okI_nI (by omega) (by omega)), nI_clamp (by omega), he i hlt, if_pos cx, vl_e, nI_1]
        · by_cases cj : j = i
          · rw [cj]
            exact cx
          · exact hA j (by omega)
      · refine ⟨.inr (.inr 0), ?_, Or.inr ⟨_, rfl, Or.inr ⟨rfl, ?_⟩⟩⟩
        · rw [if_neg (nI_ge hlt (by omega)), gd_h (okI_nI (by omega) (by omega)), nI_clamp (by omega), he i hlt, if_neg cx]
        · unfold al
          rw [List.all_eq_false]
          exact ⟨i, List.mem_range.mpr hlt, by rw [decide_eq_true_iff]; exact cx⟩
/-- the bits -/
def bs (g : Nat → Bool) : Nat → Int32
  | 0 => 0
  | i + 1 => if g i = true then bs g i ||| ((1 : Int32) <<< (nI i &&& 31)) else bs g i
theorem f_mseen_yes {σ : Sg} {n l c : Nat} {w : Nat → Nat → Nat} (hC : Cur σ n w) (hl : l < (Ln n w).length) (hc : c ≤ 6) (h20 : gI σ 20 = nI c) : ∃ σ', wl (fun a : Int32 × Int32 × Sg => f_X7_unseen_B17 (nI l) a.1 a.2.1 a.2.2) FU ((1 : Int32), (0 : Int32), σ) = some (bI (al σ c (ri n w l)), σ') ∧ Fr51 σ σ' := by
  have key := wl_inv (body := fun a : Int32 × Int32 × Sg => f_X7_unseen_B17 (nI l) a.1 a.2.1 a.2.2) (N := c) (I := fun i (a : Int32 × Int32 × Sg) => a.1 = bI (al σ i (ri n w l)) ∧ a.2.1 = nI i ∧ Fr51 σ a.2.2) (Post := fun b : Int32 × Sg => b.1 = bI (al σ c (ri n w l)) ∧ Fr51 σ b.2) (fun i a hi hI => ?_) FU 0 ((1 : Int32), (0 : Int32), σ) ⟨rfl, rfl, Fr.rf⟩ (Nat.zero_le _) (FU_big (by omega))
  · obtain ⟨⟨x, σ'⟩, k1, k2, k3⟩ := key
    dsimp only at k2 k3
    subst k2
    exact ⟨σ', k1, k3⟩
  · obtain ⟨x, y, σ1⟩ := a
    obtain ⟨hx, hy, hF⟩ := hI
    dsimp only at hx hy hF ⊢
    subst hx
    subst hy
    have C1 := hC.fx hF.x
    have h20' : gI σ1 20 = nI c := (hF.1 20 (by simp)).trans h20
    by_cases he : i = c
    · subst he
      refine ⟨.inr (bI (al σ i (ri n w l)), σ1), ?_, Or.inr ⟨_, rfl, rfl, hF⟩⟩
      unfold f_X7_unseen_B17
      rw [h20', if_pos (nI_le (Nat.le_refl _) (by omega))]
    · have hlt : i < c := by omega
      have hs : al σ (i + 1) (ri n w l) = (al σ i (ri n w l) && decide (gJ σ 49 i = lN (ri n w l))) := by
        unfold al
        rw [List.range_succ, List.all_append]
        simp
      cases q : al σ i (ri n w l)
      · refine ⟨.inl ((0 : Int32), nI (i + 1), σ1), ?_, Or.inl ⟨_, rfl, hlt, by rw [hs, q]; rfl, rfl, hF⟩⟩
        unfold f_X7_unseen_B17
        rw [h20', if_neg (nI_ge hlt (by omega)), if_pos bIf, vl_e, nI_1]
      · obtain ⟨σ2, b1, b2⟩ := C1.tr (l := some l) (soN hl)
        have e49 : gJ σ2 49 i = gJ σ 49 i := by rw [(hF.tr b2).2.2.1 49 (by simp)]
        by_cases cx : gJ σ 49 i = lN (ri n w l)
        · refine ⟨.inl ((1 : Int32), nI (i + 1), σ2), ?_, Or.inl ⟨_, rfl, hlt, by rw [hs, q, decide_eq_true cx]; rfl, rfl, hF.tr b2⟩⟩
          unfold f_X7_unseen_B17
          rw [h20', if_neg (nI_ge hlt (by omega)), if_neg bIt, show nI l = wI (some l) from rfl, b1, Option.bind_some, gd_h (okI_nI (by omega) (by omega)), nI_clamp (by omega)]
          dsimp only
          rw [e49, if_pos (show lN (ss (tT n) (Lx (Ln n w) (some l))) = gJ σ 49 i from cx.symm), vl_e, nI_1]
        · refine ⟨.inl ((0 : Int32), nI (i + 1), σ2), ?_, Or.inl ⟨_, rfl, hlt, by rw [hs, q, decide_eq_false cx]; rfl, rfl, hF.tr b2⟩⟩
          unfold f_X7_unseen_B17
          rw [h20', if_neg (nI_ge hlt (by omega)), if_neg bIt, show nI l = wI (some l) from rfl, b1, Option.bind_some, gd_h (okI_nI (by omega) (by omega)), nI_clamp (by omega)]
          dsimp only
          rw [e49, if_neg (show ¬ lN (ss (tT n) (Lx (Ln n w) (some l))) = gJ σ 49 i from fun q => cx q.symm), vl_e, nI_1]
theorem S_unseen {σ : Sg} (h : Inv σ) : ∃ r σ1 σ2, f_X6_unseen σ = some (r, σ1) ∧ f_X7_unseen σ1 = some (r, σ2) ∧ Inv σ2 := by
  obtain ⟨n, w, H, c, len, hP⟩ := h
  have hC : Cur σ n w := hP.1
  obtain ⟨⟨cw, cn, c17, cr⟩, hH, hI, hT, hS, hWR⟩ := id hP
  have hl := cw.2.2.2.2.2
  obtain ⟨σ1, b1, b2, b3⟩ := f_rests_yes hC
  have C1 := hC.fy b2
  have S1 : Sn σ1 c := (hP.sm (FrY.sm b2 hWR)).2.2.2.2.1
  have key1 := wl_run (body := fun a : Int32 × Int32 => f_X6_unseen_B8 σ1 a.1 a.2) (fun i => (bs (fun l => al σ1 c (ri n w l)) i, nI i)) (Ln n w).length (b := bs (fun l => al σ1 c (ri n w l)) (Ln n w).length) (fun i hi => ?_) ?_ FU (FU_big (by omega))
  · have key2 := wl_inv (body := fun a : Int32 × Int32 × Sg => f_X7_unseen_B4 a.1 a.2.1 a.2.2) (N := (Ln n w).length) (I := fun i (a : Int32 × Int32 × Sg) => a.1 = bs (fun l => al σ1 c (ri n w l)) i ∧ a.2.1 = nI i ∧ Fr51 σ1 a.2.2) (Post := fun b : Int32 × Sg => b.1 = bs (fun l => al σ1 c (ri n w l)) (Ln n w).length ∧ Fr51 σ1 b.2) (fun i a hi hI => ?_) FU 0 ((0 : Int32), (0 : Int32), σ1) ⟨rfl, rfl, Fr.rf⟩ (Nat.zero_le _) (FU_big (by omega))
    · obtain ⟨⟨x, σ2⟩, k1, k2, k3⟩ := key2
      dsimp only at k2 k3
      subst k2
      refine ⟨bs (fun l => al σ1 c (ri n w l)) (Ln n w).length, σ1, σ2, ?_, ?_, ⟨n, w, H, c, len, hP.sm (FrY.sm (b2.tr k3.x.y) hWR)⟩⟩
      · unfold f_X6_unseen
        rw [b1, Option.bind_some, show ((0 : Int32), (0 : Int32)) = (bs (fun l => al σ1 c (ri n w l)) 0, nI 0) from rfl, key1, Option.bind_some]
      · unfold f_X7_unseen
        rw [k1, Option.bind_some]
    · obtain ⟨x, y, σ2⟩ := a
      obtain ⟨hx, hy, hF⟩ := hI
      dsimp only at hx hy hF ⊢
      subst hx
      subst hy
      have C2 := C1.fx hF.x
      by_cases he : i = (Ln n w).length
      · subst he
        refine ⟨.inr (bs (fun l => al σ1 c (ri n w l)) (Ln n w).length, σ2), ?_, Or.inr ⟨_, rfl, rfl, hF⟩⟩
        unfold f_X7_unseen_B4
        rw [f_lines_yes C2.2.2.2, Option.bind_some, if_pos (nI_le (Nat.le_refl _) (by omega))]
      · have hlt : i < (Ln n w).length := by omega
        obtain ⟨σ3, g1, g2⟩ := f_mseen_yes C2 hlt S1.1 ((hF.1 20 (by simp)).trans S1.2.2.1)
        have ea : al σ2 c (ri n w i) = al σ1 c (ri n w i) := by
          unfold al
          rw [hF.2.2.1 49 (by simp)]
        rw [ea] at g1
        have hb : bs (fun l => al σ1 c (ri n w l)) (i + 1) = if al σ1 c (ri n w i) = true then bs (fun l => al σ1 c (ri n w l)) i ||| ((1 : Int32) <<< (nI i &&& 31)) else bs (fun l => al σ1 c (ri n w l)) i := rfl
        refine ⟨.inl (bs (fun l => al σ1 c (ri n w l)) (i + 1), nI (i + 1), σ3), ?_, Or.inl ⟨_, rfl, hlt, rfl, rfl, hF.tr g2⟩⟩
        unfold f_X7_unseen_B4
        rw [f_lines_yes C2.2.2.2, Option.bind_some, if_neg (nI_ge hlt (by omega)), g1, Option.bind_some, hb]
        dsimp only
        cases q : al σ1 c (ri n w i)
        · rw [if_pos bIf, if_neg (by decide), vl_e, vl_e, nI_1, show bs (fun l => al σ1 c (ri n w l)) i ||| (0 : Int32) = bs (fun l => al σ1 c (ri n w l)) i by simp]
        · rw [if_neg bIt, if_pos rfl, vl_e, vl_e, nI_1]
  · dsimp only
    have hb : bs (fun l => al σ1 c (ri n w l)) (i + 1) = if al σ1 c (ri n w i) = true then bs (fun l => al σ1 c (ri n w l)) i ||| ((1 : Int32) <<< (nI i &&& 31)) else bs (fun l => al σ1 c (ri n w l)) i := rfl
    unfold f_X6_unseen_B8
    rw [C1.2.1.2.1, if_neg (nI_ge hi (by omega)), gd_h (okI_nI (by omega) (by omega)), nI_clamp (by omega), b3 i hi, f_allSeen_yes S1.1 S1.2.1 S1.2.2.2, Option.bind_some, hb]
    cases q : al σ1 c (ri n w i)
    · rw [if_pos bIf, if_neg (by decide), vl_e, nI_1]
    · rw [if_neg bIt, if_pos rfl, vl_e, vl_e, nI_1]
  · dsimp only
    unfold f_X6_unseen_B8
    rw [C1.2.1.2.1, if_pos (nI_le (Nat.le_refl _) (by omega))]
