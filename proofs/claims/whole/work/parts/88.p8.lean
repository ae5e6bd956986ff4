theorem cuts_loop {σ : Sg} {l : Nat} {L : List (Nat × Nat × Nat)} (hl : l < L.length) (hL : L.length ≤ 10) (h0 : gA σ 46 0 = nI (L.length - 1)) (hr : ∀ i e, L[i]? = some e → RecAt σ 0 i e) : ∃ σ', wl (fun a : Int32 × Sg => f_X7_cuts_B26 a.1 a.2) FU (nI l, σ) = some σ' ∧ (Fr [] [46] [] σ σ' ∧ RowAt σ' 0 (L.eraseIdx l) ∧ ∀ j, 31 ≤ j → gA σ' 46 j = gA σ 46 j) := by
  have hlen : (L.eraseIdx l).length = L.length - 1 := by rw [List.length_eraseIdx]; rw [if_pos hl]
  refine wl_inv (N := L.length - 1 - l) (I := fun i (a : Int32 × Sg) => a.1 = nI (l + i) ∧ Fr [] [46] [] σ a.2 ∧ (∀ j, (j = 0 ∨ 31 ≤ j) → gA a.2 46 j = gA σ 46 j) ∧ (∀ j e, j < l + i → (L.eraseIdx l)[j]? = some e → RecAt a.2 0 j e) ∧ ∀ j e, l + i < j → L[j]? = some e → RecAt a.2 0 j e) (fun i a hi hI => ?_) FU 0 (nI l, σ) ⟨rfl, Fr.rf, fun j _ => rfl, fun j e hj he => ?_, fun j e _ he => hr j e he⟩ (Nat.zero_le _) (FU_big (by omega))
  · obtain ⟨x, σ1⟩ := a
    obtain ⟨hx, hF, hout, hlow, hhigh⟩ := hI
    dsimp only at hx hF hout hlow hhigh ⊢
    subst hx
    have hln : f_X7_lines σ1 = some (nI (L.length - 1)) := by
      unfold f_X7_lines
      rw [gd_h (by decide), c0, hout 0 (Or.inl rfl), h0]
    by_cases he : i = L.length - 1 - l
    · subst he
      refine ⟨.inr σ1, by unfold f_X7_cuts_B26; rw [hln, Option.bind_some, if_pos (nI_le (by omega) (by omega))], Or.inr ⟨σ1, rfl, hF, ⟨?_, fun j e hj => ?_⟩, fun j hj => hout j (Or.inr hj)⟩⟩
      · rw [hout 0 (Or.inl rfl), h0, hlen]
      · have := (List.getElem?_eq_some_iff.mp hj).1
        exact hlow j e (by omega) hj
    · have hlt : l + i + 1 < L.length := by omega
      obtain ⟨e, hg⟩ : ∃ e, L[l + i + 1]? = some e := ⟨_, List.getElem?_eq_getElem hlt⟩
      obtain ⟨s1, s2, s3⟩ := hhigh _ _ (by omega) hg
      rw [Nat.zero_add] at s1 s2 s3
      have hbody : f_X7_cuts_B26 (nI (l + i)) σ1 = some (.inl (nI (l + i + 1), setL σ1 0 (l + i) e)) := by
        unfold f_X7_cuts_B26
        rw [hln, Option.bind_some]
        rw [if_neg (nI_ge (by omega) (by omega)), il_1, il_11, il_21, nI_add, nI_add, gd_h (okI_nI (by omega) (by omega)), nI_clamp (by omega), vl_e, gd_h (okI_nI (by omega) (by omega)), nI_clamp (by omega), vl_e, nI_add, nI_add, gd_h (okI_nI (by omega) (by omega)), nI_clamp (by omega), vl_e, gA_pA, if_pos rfl, upd_at, if_neg (by omega), gd_h (okI_nI (by omega) (by omega)), nI_clamp (by omega), vl_e, nI_add, nI_add, gd_h (okI_nI (by omega) (by omega)), nI_clamp (by omega), vl_e, gA_pA, if_pos rfl, upd_at, if_neg (by omega), gA_pA, if_pos rfl, upd_at, if_neg (by omega), gd_h (okI_nI (by omega) (by omega)), nI_clamp (by omega), vl_e, nI_add, vl_e]
        rw [show 1 + (l + i) + 1 = 1 + (l + i + 1) by omega, s1, show 11 + (l + i) + 1 = 11 + (l + i + 1) by omega, s2, show 21 + (l + i) + 1 = 21 + (l + i + 1) by omega, s3]
        unfold setL
        simp only [Nat.zero_add]
      refine ⟨_, hbody, Or.inl ⟨_, rfl, by omega, by rw [show l + i + 1 = l + (i + 1) by omega], hF.tr setL_fr, fun j hj => ?_, fun j f hj hf => ?_, fun j f hj hf => ?_⟩⟩
      · dsimp only
        rw [setL_out (by omega) (by omega)]
        exact hout j hj
      · dsimp only
        by_cases c : j = l + i
        · subst c
          rw [List.getElem?_eraseIdx, if_neg (by omega), hg] at hf
          cases hf
          exact setL_self
        · exact setL_far (by omega) (by omega) c (hlow j f (by omega) hf)
      · dsimp only
        have := (List.getElem?_eq_some_iff.mp hf).1
        exact setL_far (by omega) (by omega) (by omega) (hhigh j f (by omega) hf)
  · rw [Nat.add_zero] at hj
    rw [List.getElem?_eraseIdx, if_pos hj] at he
    exact hr j e he
theorem S_cuts (x : Int32) {σ : Sg} (h : Inv σ) : ∃ r σ1 σ2, f_X6_cuts σ x = some (r, σ1) ∧ f_X7_cuts σ1 x = some (r, σ2) ∧ Inv σ2 := by
  obtain ⟨n, w, H, c, len, hP⟩ := h
  have hinv : Inv σ := ⟨n, w, H, c, len, hP⟩
  obtain ⟨⟨cw, cn, c17, cr⟩, hH, hI, hT, hS, hWR⟩ := id hP
  have hn := cw.2.1
  have hl := cw.2.2.2.2.2
  rcases line_cases hl x with hx | ⟨i, hi, rfl⟩
  · refine ⟨-1, σ, σ, ?_, ?_, hinv⟩
    · unfold f_X6_cuts
      rw [f_hasLine_no (k := 0) cn.2.1 hx, Option.bind_some, if_pos rfl]
    · unfold f_X7_cuts
      rw [f_isLine_no cr hl hx, Option.bind_some, if_pos rfl]
  · obtain ⟨e, he⟩ : ∃ e, (Ln n w)[i]? = some e := ⟨_, List.getElem?_eq_getElem hi⟩
    have hm := mem_Ln.mp (List.mem_of_getElem? he)
    have hcut := Ln_cut cw he
    have hlen : ((Ln n w).eraseIdx i).length = (Ln n w).length - 1 := by rw [List.length_eraseIdx, if_pos hi]
    have hw' : wok n (w2 w e.1 e.2.1 0) := w2_wok cw (by omega) (by omega) (by rw [hcut, hlen]; omega)
    obtain ⟨σ1, f1, f2, f3, f4, f5⟩ := f_change_yes cw cn (show e.1 < n by omega) hm.2.1 (by omega) hw' hH.2.1 hH.1
    obtain ⟨σ2, g1, g2, g3, g4, g5, g6, g7⟩ := f_notes_yes (σ := σ1) (c := H.length) (by rw [f2.1 18 (by simp)]; exact hH.2.2.1) hH.1
    have rr1 : RowAt σ1 0 (Ln n w) := frow f2 (by simp) cr
    have rr2 : RowAt σ2 0 (Ln n w) := rr1.keep hl (fun j _ hj => g4 j (by omega))
    obtain ⟨σ3, k1, k2, k3, k4⟩ := cuts_loop (σ := pA σ2 46 0 (nI ((Ln n w).length - 1))) (l := i) hi hl (by rw [gA_pA, if_pos rfl, upd_at, if_pos rfl]) (fun j f hf => by
      obtain ⟨q1, q2, q3⟩ := rr2.2 j f hf
      unfold RecAt
      rw [gA_pA, if_pos rfl, upd_at, upd_at, upd_at, if_neg (by omega), if_neg (by omega), if_neg (by omega)]
      exact ⟨q1, q2, q3⟩)
    rw [← hcut] at k3
    refine ⟨nI (Ln n (w2 w e.1 e.2.1 0)).length, σ1, σ3, ?_, ?_, ?_⟩
    · unfold f_X6_cuts
      rw [f_hasLine_yes (k := 0) cn.2.1 hl hi, Option.bind_some, if_neg ne10, f_lowOf_yes cn hl he, Option.bind_some, f_highOf_yes cn hl he, Option.bind_some, il_0, f1, Option.bind_some, show gI σ1 5 = nI (Ln n (w2 w e.1 e.2.1 0)).length from f3.2.1]
    · unfold f_X7_cuts
      rw [f_isLine_yes rr1 hl hi, Option.bind_some, if_neg ne10, g1, Option.bind_some, gd_h (by decide), c0, rr2.1, vl_e, nI_m1 (by omega), gd_h (by decide), vl_e, k1, Option.bind_some, f_lines_yes k3]
      rfl
    · have out : ∀ j, 31 ≤ j → gA σ3 46 j = gA σ2 46 j := fun j hj => by rw [k4 j hj, gA_pA, if_pos rfl, upd_at, if_neg (by omega)]
      have k5 : Fr [] [46] [] σ2 σ3 := (Fr.pA (by simp)).tr k2
      refine inv_noted hP (u := e.1) (v := e.2.1) (a := 0) ?_ hw' (by omega) hm.2.1 (by omega) ?_ k3 ?_ ?_ ?_ ?_
      · exact ((Fr.mono f2 (by simp) (by simp) (by simp)).tr (Fr.mono g2 (by simp) (by simp) (by simp))).tr (Fr.mono k5 (by simp) (by simp) (by simp))
      · refine NetAt.cg f3 ?_ ?_ ?_ ?_ ?_
        · rw [k5.1 _ (by simp), g2.1 _ (by simp)]
        · rw [k5.1 _ (by simp), g2.1 _ (by simp)]
        · rw [k5.2.1 _ (by simp), g2.2.1 _ (by simp)]
        · rw [k5.2.1 _ (by simp), g2.2.1 _ (by simp)]
        · rw [k5.2.1 _ (by simp), g2.2.1 _ (by simp)]
      · rw [k5.1 14 (by simp), g2.1 14 (by simp)]; exact f4
      · rw [k5.1 18 (by simp)]; exact g3
      · unfold NotedC
        rw [k5.2.1 25 (by simp), g2.2.1 25 (by simp), k5.2.1 26 (by simp), g2.2.1 26 (by simp), k5.2.1 27 (by simp), g2.2.1 27 (by simp)]
        exact f5
      · have e46 : gA σ1 46 = gA σ 46 := f2.2.1 46 (by simp)
        rw [e46] at g5 g6 g7
        exact ⟨fun j hj => by rw [out j (by omega)]; exact g5 j hj, fun hc => ⟨fun j h1 h2 => by rw [out j (by omega)]; exact (g6 hc).1 j h2, fun i hi => by rw [out _ (by omega)]; exact (g6 hc).2 i hi⟩, fun hc => ⟨fun j h1 h2 => by rw [out j (by omega)]; exact (g7 hc).1 j h1 h2, fun i hi => by rw [out _ (by omega)]; exact (g7 hc).2 i hi⟩⟩
theorem S_undo {σ : Sg} (h : Inv σ) : ∃ r σ1 σ2, f_X6_undo σ = some (r, σ1) ∧ f_X7_undo σ1 = some (r, σ2) ∧ Inv σ2 := by
  obtain ⟨n, w, H, c, len, hP⟩ := h
  have hinv : Inv σ := ⟨n, w, H, c, len, hP⟩
  obtain ⟨⟨cw, cn, c17, cr⟩, hH, hI, hT, hS, hWR⟩ := id hP
  have hn := cw.2.1
  obtain ⟨h12, h14, h18, hPast⟩ := hH
  match H, h12, h14, h18, hPast with
  | [], _, h14, h18, _ =>
    refine ⟨-2, σ, σ, ?_, ?_, hinv⟩
    · unfold f_X6_undo f_X2_takesBack
      rw [h14, if_neg (by decide)]
      rfl
    · unfold f_X7_undo
      rw [h18, if_pos (show nI ([] : List (Nat × Nat × Nat)).length = 0 from rfl)]
  | e :: H, h12, h14, h18, hPast =>
    obtain ⟨a1, a2, a3, ⟨b1, b2, b3⟩, a5, a6, a7⟩ := hPast
    rw [List.length_cons] at h12 h14 h18
    have hm : Mat (pI σ 14 (nI H.length)) 0 n w := ⟨cn.1, cn.2.2.1⟩
    obtain ⟨σ1, p1, p2, p3⟩ := f_put_yes (σ := pI σ 14 (nI H.length)) (k := 0) (a := e.2.2) hn hm b1 b2 b3 a5
    have p14 : gI σ1 14 = nI H.length := by rw [p2.1 14 (by simp), gI_pI, if_pos rfl]
    have f1 : Fr [5, 14] [4, 5, 6] [] σ σ1 := (Fr.pI (by simp)).tr (Fr.mono p2 (by simp) (by simp) (by simp))
    have h18' : gI σ1 18 = nI (H.length + 1) := by rw [f1.1 18 (by simp)]; exact h18
    obtain ⟨σ2, q1, q2, q3, q4⟩ := f_copyRow_yes (σ := pI σ1 18 (nI H.length)) (a := 31 + 31 * H.length) (b := 0) (by omega) (by omega) (by omega)
    have q18 : gI σ2 18 = nI H.length := by rw [q2.1 18 (by simp), gI_pI, if_pos rfl]
    have f2 : Fr [5, 14, 18] [4, 5, 6, 46] [] σ σ2 := ((Fr.mono f1 (by simp) (by simp) (by simp)).tr (Fr.pI (by simp))).tr (Fr.mono q2 (by simp) (by simp) (by simp))
    have e46 : gA σ1 46 = gA σ 46 := f1.2.1 46 (by simp)
    refine ⟨nI H.length, σ1, σ2, ?_, ?_, n, w2 w e.1 e.2.1 e.2.2, H, c, len, ⟨a5, ?_, ?_, ?_⟩, ⟨by omega, ?_, q18, ?_⟩, ⟨?_, ?_⟩, ?_, ?_, hWR.cg f2.2.2.2⟩
    · unfold f_X6_undo f_X2_takesBack
      rw [h14, if_pos (show 0 < nI (H.length + 1) from nI_lt (a := 0) (by omega) (by omega)), nI_pred, vl_e, vl_e, gI_pI, if_pos rfl, gd_h (okI_nI (by omega) (by omega)), gd_h (okI_nI (by omega) (by omega)), gd_h (okI_nI (by omega) (by omega)), nI_clamp (by omega), gA_pI, gA_pI, gA_pI, a1, a2, a3, p1, Option.bind_some, Option.bind_some]
      dsimp only
      rw [if_neg ne10, p14]
    · unfold f_X7_undo
      rw [h18', if_neg (nI_ne0 (by omega) (by omega)), nI_pred, vl_e, vl_e, gI_pI, if_pos rfl, il_31, il_0, pk_mul, nI_add, q1, Option.bind_some, q18]
    · exact p3.cg (q2.1 4 (by simp)) (q2.1 5 (by simp)) (q2.2.1 4 (by simp)) (q2.2.1 5 (by simp)) (q2.2.1 6 (by simp))
    · rw [f2.1 17 (by simp)]; exact c17
    · refine a6.of a5.2.2.2.2.2 (fun i hi => ?_)
      rw [q3 i hi, gA_pI, e46]
    · rw [q2.1 14 (by simp)]; exact p14
    · refine Past.at (fun j hj => ⟨by rw [f2.2.1 25 (by simp)], by rw [f2.2.1 26 (by simp)], by rw [f2.2.1 27 (by simp)], fun i hi => ?_⟩) a7
      rw [q4 _ (by omega), gA_pI, e46]
    · exact hI.1.cg (by rw [f2.2.1 44 (by simp)]) (by rw [f2.2.1 47 (by simp)]) (fun w q => q.cg (f2.1 10 (by simp)) (f2.1 11 (by simp)) (f2.2.1 16 (by simp)) (f2.2.1 17 (by simp)) (f2.2.1 18 (by simp))) (fun L h9 q => q.keep h9 (fun j h1 _ => by rw [q4 j (by omega), gA_pI, e46]))
    · exact hI.2.cg (by rw [f2.2.1 44 (by simp)]) (by rw [f2.2.1 47 (by simp)]) (fun w q => q.cg (f2.1 12 (by simp)) (f2.1 13 (by simp)) (f2.2.1 20 (by simp)) (f2.2.1 21 (by simp)) (f2.2.1 22 (by simp))) (fun L h9 q => q.keep h9 (fun j h1 _ => by rw [q4 j (by omega), gA_pI, e46]))
    · unfold Txt
      rw [f2.1 1 (by simp), f2.1 19 (by simp), f2.2.1 2 (by simp), f2.2.1 48 (by simp)]
      exact hT
    · unfold Sn
      rw [f2.1 0 (by simp), f2.1 20 (by simp), f2.2.2.1 42 (by simp), f2.2.2.1 49 (by simp)]
      exact hS
