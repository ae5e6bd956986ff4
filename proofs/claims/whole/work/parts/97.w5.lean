/-! net: both answer the same -/
theorem InvP.fm {σ σ' : Sg} {n c len : Nat} {w : Nat → Nat → Nat} {H : List (Nat × Nat × Nat)} (h : InvP σ n w H c len) (f : Fm σ σ') : InvP σ' n w H c len := by
  obtain ⟨hC, hH, hI, hT, hS, hR⟩ := h
  have gi : ∀ i, i ∉ [21, 22, 23, 24, 25] → gI σ' i = gI σ i := f.1.1
  have ga : ∀ i, i ∉ [46, 50] → gA σ' i = gA σ i := f.1.2.1
  have gj : ∀ i, gJ σ' i = gJ σ i := fun i => f.1.2.2.1 i List.not_mem_nil
  refine ⟨⟨hC.1, hC.2.1.cg (gi _ (by decide)) (gi _ (by decide)) (ga _ (by decide)) (ga _ (by decide)) (ga _ (by decide)), (gi _ (by decide)).trans hC.2.2.1, hC.2.2.2.keep hC.1.2.2.2.2.2 (fun j _ hj => f.2 j (by omega))⟩, ⟨hH.1, (gi _ (by decide)).trans hH.2.1, (gi _ (by decide)).trans hH.2.2.1, Past.cg (ga _ (by decide)) (ga _ (by decide)) (ga _ (by decide)) (fun L r _ h2 hl q => q.keep hl (fun j _ hj => f.2 j (by omega))) hH.1 hH.2.2.2⟩, ⟨?_, ?_⟩, ?_, ?_, hR.cg f.1.2.2.2⟩
  · exact hI.1.cg (by rw [ga 44 (by decide)]) (by rw [ga 47 (by decide)]) (fun w q => q.cg (gi _ (by decide)) (gi _ (by decide)) (ga _ (by decide)) (ga _ (by decide)) (ga _ (by decide))) (fun L hl q => q.keep hl (fun j _ hj => f.2 j (by omega)))
  · exact hI.2.cg (by rw [ga 44 (by decide)]) (by rw [ga 47 (by decide)]) (fun w q => q.cg (gi _ (by decide)) (gi _ (by decide)) (ga _ (by decide)) (ga _ (by decide)) (ga _ (by decide))) (fun L hl q => q.keep hl (fun j _ hj => f.2 j (by omega)))
  · unfold Txt
    rw [gi 1 (by decide), gi 19 (by decide), ga 2 (by decide), ga 48 (by decide)]
    exact hT
  · unfold Sn
    rw [gi 0 (by decide), gi 20 (by decide), gj 42, gj 49]
    exact hS
def ResN (σ σ' : Sg) (x : Int32) : Nat ⊕ (Nat × Nat × (Nat → Nat → Nat)) → Prop
  | .inl q => x = (-10 : Int32) - nI q ∧ Fm σ σ'
  | .inr r => x = nI r.1 ∧ Fr [17, 18, 19, 20, 21, 22, 23, 24, 25] [46, 47, 50] [] σ σ' ∧ gI σ' 17 = nI r.2.1 ∧ gI σ' 18 = 0 ∧ gI σ' 19 = 0 ∧ gI σ' 20 = 0 ∧ gA σ' 47 0 = 0 ∧ gA σ' 47 1 = 0 ∧ RowAt σ' 0 (Ln r.2.1 r.2.2)
theorem f_mnet_yes {σ : Sg} {tx : Nat → Int32} {len : Nat} (h : Ty σ tx len) : ∃ x σ', f_X7_net σ = some (x, σ') ∧ ResN σ σ' x (plA tx len) := by
  have hl := h.2.1
  have F0 : Fm σ (pA (pI (pI σ 22 0) 25 2) 46 465 0) := ⟨((Fr.pI (by simp)).tr (Fr.pI (by simp))).tr (Fr.pA (by simp)), fun q hq => by rw [gA_pA, if_pos rfl, upd_at, if_neg (by omega)]; rfl⟩
  have R0 : RowAt (pA (pI (pI σ 22 0) 25 2) 46 465 0) 465 (Ln 2 (fun _ _ => 0)) := by
    rw [Ln_zero (fun _ _ _ _ => rfl)]
    exact ⟨by rw [gA_pA, if_pos rfl, upd_at, if_pos rfl]; rfl, fun i e he => by simp at he⟩
  obtain ⟨σ1, a1, a2, a3⟩ := f_next_yes (σ := pA (pI (pI σ 22 0) 25 2) 46 465 0) (b := 0) (h.m F0) rfl (Nat.zero_le _)
  have F1 : Fm σ σ1 := F0.tr a2.m
  have key := wl_inv (body := fun a : Int32 × Sg => f_X7_net_B25 a.1 a.2) (N := 80) (I := fun i (a : Int32 × Sg) => ∃ n w p, a.1 = nI i ∧ Fm σ a.2 ∧ Tok a.2 tx len p ∧ i ≤ p ∧ gI a.2 25 = nI n ∧ RowAt a.2 465 (Ln n w) ∧ wok n w ∧ (i = 0 → w = fun _ _ => 0) ∧ pl tx len (81 - i) i n w p = plA tx len) (Post := fun b : (Int32 × Sg) ⊕ (Int32 × Sg) => (∃ σ' i n w, b = .inl (nI i, σ') ∧ Fm σ σ' ∧ plA tx len = .inr (i, n, w) ∧ gI σ' 25 = nI n ∧ RowAt σ' 465 (Ln n w) ∧ wok n w) ∨ (∃ σ' q, b = .inr ((-10 : Int32) - nI q, σ') ∧ Fm σ σ' ∧ plA tx len = .inl q)) (fun i a hi hI => ?_) FU 0 ((0 : Int32), σ1) ⟨2, fun _ _ => 0, sk tx len 0, rfl, F1, a3, Nat.zero_le _, (a2.1 25 (by simp)).trans rfl, R0.cg (a2.2.1 46 (by simp)), wok0 (by omega) (by omega), fun _ => rfl, rfl⟩ (Nat.zero_le _) (FU_big (by omega))
  · obtain ⟨q, k1, k2⟩ := key
    have e0 : f_X7_net σ = (some q).bind (Sum.elim (fun t14 => (f_X7_copyRow t14.2 (465 : Int32) (0 : Int32)).bind (fun t15 => vl (gI t15 25) (fun x16 => vl (pI t15 17 x16) (fun σ17 => vl (pI σ17 19 (0 : Int32)) (fun σ18 => vl (pI σ18 18 (0 : Int32)) (fun σ19 => vl (pI σ19 20 (0 : Int32)) (fun σ20 => gd (okI (0 : Int32) 2) (vl (pA σ20 47 (0 : Int32).toNatClampNeg (0 : Int32)) (fun σ22 => gd (okI (1 : Int32) 2) (vl (pA σ22 47 (1 : Int32).toNatClampNeg (0 : Int32)) (fun σ24 => some (t14.1, σ24)))))))))))) (fun v => some v)) := by
      unfold f_X7_net
      rw [vl_e, vl_e, gd_h (by decide), vl_e, c465, a1, Option.bind_some, k1]
    rw [e0, Option.bind_some]
    rcases k2 with ⟨σ2, i, n, w, rfl, f2, r1, r2, r3, r4⟩ | ⟨σ2, q, rfl, f2, r1⟩
    · obtain ⟨σ3, c1, c2, c3, c4⟩ := f_copyRow_yes (σ := σ2) (a := 465) (b := 0) (by omega) (by omega) (by omega)
      have c1'' : f_X7_copyRow σ2 (465 : Int32) (0 : Int32) = some σ3 := c1
      have h25 : gI σ3 25 = nI n := (c2.1 25 (by simp)).trans r2
      refine ⟨nI i, pA (pA (pI (pI (pI (pI σ3 17 (nI n)) 19 0) 18 0) 20 0) 47 0 0) 47 1 0, ?_, ?_⟩
      · dsimp only [Sum.elim_inl]
        rw [c1'', Option.bind_some, h25, vl_e, vl_e, vl_e, vl_e, vl_e, gd_h (by decide), vl_e, gd_h (by decide), vl_e, c0, show (1 : Int32).toNatClampNeg = 1 from rfl]
      · rw [r1]
        have Fa : Fr [17, 18, 19, 20, 21, 22, 23, 24, 25] [46, 47, 50] [] σ σ3 := (Fr.mono f2.1 (by simp) (by simp) (by simp)).tr (Fr.mono c2 (by simp) (by simp) (by simp))
        refine ⟨rfl, (((((Fa.tr (Fr.pI (by simp))).tr (Fr.pI (by simp))).tr (Fr.pI (by simp))).tr (Fr.pI (by simp))).tr (Fr.pA (by simp))).tr (Fr.pA (by simp)), rfl, rfl, rfl, rfl, rfl, rfl, ?_⟩
        have hr0 : RowAt σ3 0 (Ln n w) := r3.of r4.2.2.2.2.2 (fun j hj => c3 j hj)
        exact hr0.cg (by rfl)
    · refine ⟨_, σ2, rfl, ?_⟩
      rw [r1]
      exact ⟨rfl, f2⟩
  · obtain ⟨x, σ3⟩ := a
    obtain ⟨n, w, p, hx, hF, hTk, hip, h25, hr, hw, hz, hR⟩ := hI
    dsimp only at hx hF hTk h25 hr ⊢
    subst hx
    have T3 := h.m hF
    have hp := hTk.2.1
    have hb0 : f_X7_net_B25 (nI i) σ3 = (if nI p = nI len then some (.inr (.inl (nI i, σ3))) else (f_X7_isItem σ3 (nI i)).bind (fun t10 => (if t10.1 = 0 then some (.inr (.inr ((-10 : Int32) - (gI t10.2 21), t10.2))) else vl (nI i + (1 : Int32)) (fun x12 => (f_X7_next t10.2).bind (fun t13 => some (.inl (x12, t13))))))) := by
      unfold f_X7_net_B25 f_X7_isEnd
      rw [hTk.1, T3.1]
      by_cases c : nI p = nI len
      · rw [if_pos c, if_pos c, Option.bind_some, if_neg ne10]
      · rw [if_neg c, if_neg c, Option.bind_some, if_pos rfl]
    by_cases cp : p < len
    · obtain ⟨z, σ4, f1, f2, f4⟩ := f_mitem_yes T3 hTk cp (by omega) h25 hr hw hz
      have hR2 : (match itm tx len p i n w with
          | .inl q => .inl q
          | .inr r => pl tx len (80 - i) (i + 1) r.1 r.2.1 (sk tx len r.2.2)) = plA tx len := by
        rw [← hR, show 81 - i = (80 - i) + 1 by omega]
        show _ = (if p < len then _ else _)
        rw [if_pos cp]
        rfl
      rw [if_neg (by rw [nI_eq (by omega) (by omega)]; omega), f1, Option.bind_some] at hb0
      cases hit : itm tx len p i n w with
      | inl q =>
        rw [hit] at f4 hR2
        dsimp only at hR2
        obtain ⟨rfl, g2⟩ := f4
        rw [if_pos rfl] at hb0
        dsimp only at hb0
        rw [g2] at hb0
        exact ⟨_, hb0, Or.inr ⟨_, rfl, Or.inr ⟨σ4, q, rfl, hF.tr f2, hR2.symm⟩⟩⟩
      | inr r =>
        rw [hit] at f4 hR2
        dsimp only at hR2
        obtain ⟨rfl, g2, g3, g4, g5, g6, g7⟩ := f4
        rw [if_neg ne10, nI_1, vl_e] at hb0
        dsimp only at hb0
        obtain ⟨σ5, s1, s2, s3⟩ := f_next_yes (σ := σ4) (b := r.2.2) (h.m (hF.tr f2)) g2 g4
        rw [s1, Option.bind_some] at hb0
        have hge := sk_ge tx len r.2.2
        refine ⟨_, hb0, Or.inl ⟨_, rfl, by omega, r.1, r.2.1, sk tx len r.2.2, rfl, (hF.tr f2).tr s2.m, s3, by omega, (s2.1 25 (by simp)).trans g5, g6.cg (s2.2.1 46 (by simp)), g7, fun q => by omega, ?_⟩⟩
        rw [show 81 - (i + 1) = 80 - i by omega]
        exact hR2
    · have hpe : p = len := by omega
      rw [if_pos (by rw [hpe])] at hb0
      have e0 : pl tx len (81 - i) i n w p = .inr (i, n, w) := by
        rw [show 81 - i = (80 - i) + 1 by omega]
        show (if p < len then _ else _) = _
        rw [if_neg cp]
      rw [e0] at hR
      exact ⟨_, hb0, Or.inr ⟨_, rfl, Or.inl ⟨σ3, i, n, w, rfl, hF, hR.symm, h25, hr, hw⟩⟩⟩
theorem f_unkeep {σ : Sg} : ∃ σ', wl (fun a : Int32 × Sg => f_X6_net_B51 a.1 a.2) FU ((0 : Int32), σ) = some σ' ∧ (Fr [] [44] [] σ σ' ∧ gA σ' 44 0 = 0 ∧ gA σ' 44 1 = 0) := by
  have key := wl_inv (body := fun a : Int32 × Sg => f_X6_net_B51 a.1 a.2) (N := 2) (I := fun i (a : Int32 × Sg) => a.1 = nI i ∧ Fr [] [44] [] σ a.2 ∧ ∀ j, j < i → gA a.2 44 j = 0) (Post := fun b => Fr [] [44] [] σ b ∧ gA b 44 0 = 0 ∧ gA b 44 1 = 0) (fun i a hi hI => ?_) FU 0 ((0 : Int32), σ) ⟨rfl, Fr.rf, fun j hj => by omega⟩ (Nat.zero_le _) (FU_big (by omega))
  · exact key
  · obtain ⟨x, σ1⟩ := a
    obtain ⟨hx, hF, hA⟩ := hI
    dsimp only at hx hF hA ⊢
    subst hx
    unfold f_X6_net_B51
    rw [il_2]
    by_cases he : i = 2
    · subst he
      exact ⟨.inr σ1, by rw [if_pos (nI_le (Nat.le_refl _) (by omega))], Or.inr ⟨σ1, rfl, hF, hA 0 (by omega), hA 1 (by omega)⟩⟩
    · refine ⟨.inl (nI (i + 1), pA σ1 44 i 0), ?_, Or.inl ⟨_, rfl, by omega, rfl, hF.tr (Fr.pA (by simp)), fun j hj => ?_⟩⟩
      · rw [if_neg (nI_ge (show i < 2 by omega) (by omega)), gd_h (okI_nI (by omega) (by omega)), nI_clamp (by omega), vl_e, vl_e, nI_1]
      · dsimp only
        rw [gA_pA, if_pos rfl, upd_at]
        by_cases c : j = i
        · rw [if_pos c]
        · rw [if_neg c]
          exact hA j (by omega)
theorem S_net {σ : Sg} (h : Inv σ) : ∃ r σ1 σ2, f_X6_net σ = some (r, σ1) ∧ f_X7_net σ1 = some (r, σ2) ∧ Inv σ2 := by
  obtain ⟨n, w, H, c, len, hP⟩ := h
  obtain ⟨hC, hH, hI, hT, hS, hWR⟩ := id hP
  have TX : Tx σ (gA σ 48) len := ⟨hT.2.1, hT.1, hT.2.2.2⟩
  obtain ⟨b, σ1, a1, a2, a3⟩ := f_tells_yes TX
  have S1 : Sm σ σ1 := Fr.sm a2 hWR (by decide) (by decide) (by decide)
  have P1 := hP.sm S1
  cases hpl : plA (gA σ 48) len with
  | inl q =>
    rw [hpl] at a3
    obtain ⟨rfl, g2, g3⟩ := a3
    have TY : Ty σ1 (gA σ 48) len := ⟨(a2.1 19 (by simp)).trans hT.2.2.1, hT.1, fun i _ => by rw [a2.2.1 48 (by simp)]⟩
    obtain ⟨x, σ2, m1, m2⟩ := f_mnet_yes TY
    rw [hpl] at m2
    obtain ⟨rfl, m3⟩ := m2
    refine ⟨(-10 : Int32) - nI q, σ1, σ2, ?_, m1, n, w, H, c, len, P1.fm m3⟩
    unfold f_X6_net
    rw [a1, Option.bind_some, if_pos rfl]
    dsimp only
    rw [g2]
  | inr r =>
    rw [hpl] at a3
    obtain ⟨rfl, g2, g3, g4⟩ := a3
    obtain ⟨σ2, c1, c2, c3⟩ := f_copyFrom_yes (σ := σ1) (k := 0) (j := 1) (by omega) g4 ⟨g3.1, g3.2.2.1⟩
    obtain ⟨σ3, d1, d2, d3, d4⟩ := f_unkeep (σ := pI (pI σ2 14 0) 0 0)
    have Fa : Fr [0, 1, 2, 3, 4, 5, 6, 7, 14] [4, 5, 6, 8, 9, 10, 44] [] σ (pI σ3 1 0) := (((((Fr.mono a2 (by simp) (by simp) (by simp)).tr (Fr.mono c2 (by simp) (by simp) (by simp))).tr (Fr.pI (by simp))).tr (Fr.pI (by simp))).tr (Fr.mono d2 (by simp) (by simp) (by simp))).tr (Fr.pI (by simp))
    have e6 : f_X6_net σ = some (nI r.1, pI σ3 1 0) := by
      unfold f_X6_net
      rw [a1, Option.bind_some, if_neg ne10]
      dsimp only
      rw [c1, Option.bind_some, vl_e, vl_e, d1, Option.bind_some, vl_e]
      have : gI (pI σ3 1 0) 3 = nI r.1 := by
        show gI σ3 3 = _
        rw [d2.1 3 (by simp)]
        show gI σ2 3 = _
        rw [c2.1 3 (by simp)]
        exact g2
      rw [this]
    have TY : Ty (pI σ3 1 0) (gA σ 48) len := ⟨(Fa.1 19 (by simp)).trans hT.2.2.1, hT.1, fun i _ => by rw [Fa.2.1 48 (by simp)]⟩
    obtain ⟨x, σ4, m1, m2⟩ := f_mnet_yes TY
    rw [hpl] at m2
    obtain ⟨rfl, m3, m4, m5, m6, m7, m8, m9', m10⟩ := m2
    have n0 : NetAt σ4 0 r.2.1 r.2.2 := by
      refine c3.cg ?_ ?_ ?_ ?_ ?_
      · rw [m3.1 _ (by decide)]
        show gI σ3 4 = _
        rw [d2.1 4 (by simp)]
        rfl
      · rw [m3.1 _ (by decide)]
        show gI σ3 5 = _
        rw [d2.1 5 (by simp)]
        rfl
      · rw [m3.2.1 _ (by decide)]
        show gA σ3 4 = _
        rw [d2.2.1 4 (by simp)]
        rfl
      · rw [m3.2.1 _ (by decide)]
        show gA σ3 5 = _
        rw [d2.2.1 5 (by simp)]
        rfl
      · rw [m3.2.1 _ (by decide)]
        show gA σ3 6 = _
        rw [d2.2.1 6 (by simp)]
        rfl
    refine ⟨nI r.1, pI σ3 1 0, σ4, e6, m1, r.2.1, r.2.2, [], 0, 0, ⟨g4, n0, m4, m10⟩, ⟨by simp, ?_, m5, trivial⟩, ⟨Or.inl ⟨?_, m8⟩, Or.inl ⟨?_, m9'⟩⟩, ⟨by omega, ?_, m6, fun i hi => by omega⟩, ⟨by omega, ?_, m7, fun i hi => by omega⟩, (hWR.cg Fa.2.2.2).cg m3.2.2.2⟩
    · rw [m3.1 14 (by decide)]
      show gI σ3 14 = _
      rw [d2.1 14 (by simp)]
      rfl
    · rw [m3.2.1 44 (by decide)]
      exact d3
    · rw [m3.2.1 44 (by decide)]
      exact d4
    · rw [m3.1 1 (by decide)]
      rfl
    · rw [m3.1 0 (by decide)]
      show gI σ3 0 = _
      rw [d2.1 0 (by simp)]
      rfl
