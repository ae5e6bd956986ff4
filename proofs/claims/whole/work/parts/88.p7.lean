/-- one 0 of a boolean -/
theorem eq00 : (0 : Int32) = 0 := rfl
theorem frow {I A J : List Nat} {σ σ' : Sg} {r : Nat} {L : List (Nat × Nat × Nat)} (h : Fr I A J σ σ') (hA : 46 ∉ A) (hr : RowAt σ r L) : RowAt σ' r L := hr.cg (h.2.1 46 hA)
theorem S_lays (x y z : Int32) {σ : Sg} (h : Inv σ) : ∃ r σ1 σ2, f_X6_lays σ x y z = some (r, σ1) ∧ f_X7_lays σ1 x y z = some (r, σ2) ∧ Inv σ2 := by
  obtain ⟨n, w, H, c, len, hP⟩ := h
  have hinv : Inv σ := ⟨n, w, H, c, len, hP⟩
  obtain ⟨⟨cw, cn, c17, cr⟩, hH, hI, hT, hS, hWR⟩ := id hP
  have hn := cw.2.1
  have h2n := cw.1
  rcases nodes_cases hn x y with hx | hy | ⟨u, v, hu, hv, rfl, rfl⟩
  · refine ⟨-1, σ, σ, ?_, ?_, hinv⟩
    · unfold f_X6_lays
      rw [f_areTwo_no1 cn.1 hx, Option.bind_some, if_pos rfl]
    · unfold f_X7_lays
      rw [f_isNode_no c17 h2n hn hx, Option.bind_some, if_pos rfl]
  · refine ⟨-1, σ, σ, ?_, ?_, hinv⟩
    · unfold f_X6_lays
      rw [f_areTwo_no2 cn.1 hn hy, Option.bind_some, if_pos rfl]
    · unfold f_X7_lays
      rcases node_cases hn x with hx | ⟨u, hu, rfl⟩
      · rw [f_isNode_no c17 h2n hn hx, Option.bind_some, if_pos rfl]
      · rw [f_isNode_yes c17 hn hu, Option.bind_some, if_neg ne10, f_isNode_no c17 h2n hn hy, Option.bind_some, if_pos rfl]
  · by_cases huv : u = v
    · subst huv
      refine ⟨-1, σ, σ, ?_, ?_, hinv⟩
      · unfold f_X6_lays
        rw [f_areTwo_yes cn.1 hn hu hv, if_pos rfl, Option.bind_some, if_pos rfl]
      · unfold f_X7_lays
        rw [f_isNode_yes c17 hn hu, Option.bind_some, if_neg ne10, Option.bind_some, if_neg ne10, if_pos rfl]
    · have hne : ¬ nI u = nI v := by rw [nI_eq (by omega) (by omega)]; exact huv
      by_cases hz : z < 1 ∨ 9 < z
      · refine ⟨-1, σ, σ, ?_, ?_, hinv⟩
        · unfold f_X6_lays
          rw [f_areTwo_yes cn.1 hn hu hv, if_neg huv, Option.bind_some, if_neg ne10, f_isWidth_i, if_pos hz, Option.bind_some, if_pos rfl]
        · unfold f_X7_lays
          rw [f_isNode_yes c17 hn hu, Option.bind_some, if_neg ne10, f_isNode_yes c17 hn hv, Option.bind_some, if_neg ne10, if_neg hne, f_in_w, if_pos hz, Option.bind_some, if_pos rfl]
      · obtain ⟨a, ha1, ha9, rfl⟩ := width_of hz
        have e0 : (0 : Int32) = nI 0 := rfl
        rcases f_lineOf_w (r := 0) cw (by omega) cr hu hv huv with ⟨hw0, hlo⟩ | ⟨hw0, i, hi, hlo⟩
        · by_cases h10 : (Ln n w).length = 10
          · refine ⟨-3, σ, σ, ?_, ?_, hinv⟩
            · unfold f_X6_lays
              rw [f_areTwo_yes cn.1 hn hu hv, if_neg huv, Option.bind_some, if_neg ne10, f_isWidth_i, if_neg hz, Option.bind_some, if_neg ne10, f_widthAt_yes cn hn hu hv, Option.bind_some, hw0, if_pos (show nI 0 = 0 from rfl), show gI σ 5 = nI (Ln n w).length from cn.2.1, h10, if_neg (by decide)]
            · unfold f_X7_lays
              rw [f_isNode_yes c17 hn hu, Option.bind_some, if_neg ne10, f_isNode_yes c17 hn hv, Option.bind_some, if_neg ne10, if_neg hne, f_in_w, if_neg hz, Option.bind_some, if_neg ne10, e0, hlo, Option.bind_some, if_pos rfl, f_lines_yes cr, Option.bind_some, h10, if_pos (show nI 10 = 10 from rfl)]
          · have hlt : (Ln n w).length < 10 := by have := cw.2.2.2.2.2; omega
            obtain ⟨A, B, q1, q2, q3, q4⟩ := Ln_add (a := a) cw hu hv huv hw0 (by omega)
            have hw' : wok n (w2 w u v a) := w2_wok cw huv ha9 (by rw [q4]; rw [q1] at hlt; simp at hlt ⊢; omega)
            obtain ⟨σ1, f1, f2, f3, f4, f5⟩ := f_change_yes cw cn hu hv huv hw' hH.2.1 hH.1
            obtain ⟨σ2, g1, g2, g3, g4, g5, g6, g7⟩ := f_notes_yes (σ := σ1) (c := H.length) (by rw [f2.1 18 (by simp)]; exact hH.2.2.1) hH.1
            have r1 : RowAt σ1 0 (Ln n w) := frow f2 (by simp) cr
            have r2 : RowAt σ2 0 (Ln n w) := r1.keep cw.2.2.2.2.2 (fun j _ hj => g4 j (by omega))
            obtain ⟨σ3, k1, k2, k3, k4⟩ := f_adds_yes (σ := σ2) (r := 0) (u := u) (v := v) (wd := a) (by omega) r2 q1 hlt (Ln_b hn) (by omega) (by omega) (fun e he => Nat.le_of_lt (q2 e he)) q3
            rw [← q4] at k3
            have l1 : gI σ1 5 = nI (Ln n (w2 w u v a)).length := f3.2.1
            refine ⟨nI (Ln n (w2 w u v a)).length, σ1, σ3, ?_, ?_, ?_⟩
            · unfold f_X6_lays
              rw [f_areTwo_yes cn.1 hn hu hv, if_neg huv, Option.bind_some, if_neg ne10, f_isWidth_i, if_neg hz, Option.bind_some, if_neg ne10, f_widthAt_yes cn hn hu hv, Option.bind_some, hw0, if_pos (show nI 0 = 0 from rfl), show gI σ 5 = nI (Ln n w).length from cn.2.1, il_10, if_pos (nI_lt hlt (by omega)), f1, Option.bind_some, l1]
            · have c17' : gI σ1 17 = nI n := by rw [f2.1 17 (by simp)]; exact c17
              rcases f_lineOf_w (r := 0) cw (by omega) r1 hu hv huv with ⟨_, hlo1⟩ | ⟨q, _⟩
              · unfold f_X7_lays
                rw [f_isNode_yes c17' hn hu, Option.bind_some, if_neg ne10, f_isNode_yes c17' hn hv, Option.bind_some, if_neg ne10, if_neg hne, f_in_w, if_neg hz, Option.bind_some, if_neg ne10, e0, hlo1, Option.bind_some, if_pos rfl, f_lines_yes r1, Option.bind_some, il_10, if_neg (by rw [nI_eq (by omega) (by omega)]; exact h10), g1, Option.bind_some, k1, Option.bind_some, f_lines_yes k3]
                rfl
              · exact absurd hw0 q
            · refine inv_noted hP (u := u) (v := v) (a := a) ?_ hw' hu hv huv ?_ k3 ?_ ?_ ?_ ?_
              · exact ((Fr.mono f2 (by simp) (by simp) (by simp)).tr (Fr.mono g2 (by simp) (by simp) (by simp))).tr (Fr.mono k2 (by simp) (by simp) (by simp))
              · refine NetAt.cg f3 ?_ ?_ ?_ ?_ ?_
                · rw [k2.1 _ (by simp), g2.1 _ (by simp)]
                · rw [k2.1 _ (by simp), g2.1 _ (by simp)]
                · rw [k2.2.1 _ (by simp), g2.2.1 _ (by simp)]
                · rw [k2.2.1 _ (by simp), g2.2.1 _ (by simp)]
                · rw [k2.2.1 _ (by simp), g2.2.1 _ (by simp)]
              · rw [k2.1 14 (by simp), g2.1 14 (by simp)]; exact f4
              · rw [k2.1 18 (by simp)]; exact g3
              · unfold NotedC
                rw [k2.2.1 25 (by simp), g2.2.1 25 (by simp), k2.2.1 26 (by simp), g2.2.1 26 (by simp), k2.2.1 27 (by simp), g2.2.1 27 (by simp)]
                exact f5
              · have e46 : gA σ1 46 = gA σ 46 := f2.2.1 46 (by simp)
                rw [e46] at g5 g6 g7
                exact ⟨fun j hj => by rw [k4 j (by omega)]; exact g5 j hj, fun hc => ⟨fun j h1 h2 => by rw [k4 j (by omega)]; exact (g6 hc).1 j h2, fun i hi => by rw [k4 _ (by omega)]; exact (g6 hc).2 i hi⟩, fun hc => ⟨fun j h1 h2 => by rw [k4 j (by omega)]; exact (g7 hc).1 j h1 h2, fun i hi => by rw [k4 _ (by omega)]; exact (g7 hc).2 i hi⟩⟩
        · refine ⟨-2, σ, σ, ?_, ?_, hinv⟩
          · have hwne : ¬ nI (w u v) = 0 := nI_ne0 (by omega) (by have := cw.2.2.2.2.1 u v; omega)
            unfold f_X6_lays
            rw [f_areTwo_yes cn.1 hn hu hv, if_neg huv, Option.bind_some, if_neg ne10, f_isWidth_i, if_neg hz, Option.bind_some, if_neg ne10, f_widthAt_yes cn hn hu hv, Option.bind_some, if_neg hwne]
          · have hil : i < (Ln n w).length := (List.getElem?_eq_some_iff.mp hi).1
            have := cw.2.2.2.2.2
            unfold f_X7_lays
            rw [f_isNode_yes c17 hn hu, Option.bind_some, if_neg ne10, f_isNode_yes c17 hn hv, Option.bind_some, if_neg ne10, if_neg hne, f_in_w, if_neg hz, Option.bind_some, if_neg ne10, e0, hlo, Option.bind_some, if_neg (nI_m9 (by omega))]
theorem line_cases {m : Nat} (hm : m ≤ 10) (x : Int32) : (x < 0 ∨ nI m ≤ x) ∨ ∃ i, i < m ∧ x = nI i := by
  rcases pk_ix x (n := m) (by omega) with h | h | ⟨j, h1, h2⟩
  · exact Or.inl (Or.inl h)
  · exact Or.inl (Or.inr h)
  · exact Or.inr ⟨j, h1, h2⟩
theorem S_widens (x z : Int32) {σ : Sg} (h : Inv σ) : ∃ r σ1 σ2, f_X6_widens σ x z = some (r, σ1) ∧ f_X7_widens σ1 x z = some (r, σ2) ∧ Inv σ2 := by
  obtain ⟨n, w, H, c, len, hP⟩ := h
  have hinv : Inv σ := ⟨n, w, H, c, len, hP⟩
  obtain ⟨⟨cw, cn, c17, cr⟩, hH, hI, hT, hS, hWR⟩ := id hP
  have hn := cw.2.1
  have hl := cw.2.2.2.2.2
  rcases line_cases hl x with hx | ⟨i, hi, rfl⟩
  · refine ⟨-1, σ, σ, ?_, ?_, hinv⟩
    · unfold f_X6_widens
      rw [f_hasLine_no (k := 0) cn.2.1 hx, Option.bind_some, if_pos rfl]
    · unfold f_X7_widens
      rw [f_isLine_no cr hl hx, Option.bind_some, if_pos rfl]
  · by_cases hz : z < 1 ∨ 9 < z
    · refine ⟨-1, σ, σ, ?_, ?_, hinv⟩
      · unfold f_X6_widens
        rw [f_hasLine_yes (k := 0) cn.2.1 hl hi, Option.bind_some, if_neg ne10, f_isWidth_i, if_pos hz, Option.bind_some, if_pos rfl]
      · unfold f_X7_widens
        rw [f_isLine_yes cr hl hi, Option.bind_some, if_neg ne10, f_in_w, if_pos hz, Option.bind_some, if_pos rfl]
    · obtain ⟨a, ha1, ha9, rfl⟩ := width_of hz
      obtain ⟨e, he⟩ : ∃ e, (Ln n w)[i]? = some e := ⟨_, List.getElem?_eq_getElem hi⟩
      have hm := mem_Ln.mp (List.mem_of_getElem? he)
      have hwe := cw.2.2.2.2.1 e.1 e.2.1
      obtain ⟨r1, r2, r3⟩ := cr.2 i e he
      by_cases hea : e.2.2 = a
      · refine ⟨-2, σ, σ, ?_, ?_, hinv⟩
        · unfold f_X6_widens
          rw [f_hasLine_yes (k := 0) cn.2.1 hl hi, Option.bind_some, if_neg ne10, f_isWidth_i, if_neg hz, Option.bind_some, if_neg ne10, f_widthOf_yes cn cw he, Option.bind_some, if_pos (by rw [hea])]
        · unfold f_X7_widens
          rw [f_isLine_yes cr hl hi, Option.bind_some, if_neg ne10, f_in_w, if_neg hz, Option.bind_some, if_neg ne10, il_21, nI_add, gd_h (okI_nI (by omega) (by omega)), nI_clamp (by omega), vl_e, show 21 + i = 0 + 21 + i by omega, r3, if_pos (by rw [hea])]
      · have hne : ¬ nI e.2.2 = nI a := by rw [nI_eq (by omega) (by omega)]; exact hea
        have hset := Ln_set (a := a) cw he (by omega)
        have hw' : wok n (w2 w e.1 e.2.1 a) := w2_wok cw (by omega) ha9 (by rw [hset, List.length_set]; exact hl)
        obtain ⟨σ1, f1, f2, f3, f4, f5⟩ := f_change_yes cw cn (show e.1 < n by omega) hm.2.1 (by omega) hw' hH.2.1 hH.1
        obtain ⟨σ2, g1, g2, g3, g4, g5, g6, g7⟩ := f_notes_yes (σ := σ1) (c := H.length) (by rw [f2.1 18 (by simp)]; exact hH.2.2.1) hH.1
        have rr1 : RowAt σ1 0 (Ln n w) := frow f2 (by simp) cr
        have rr2 : RowAt σ2 0 (Ln n w) := rr1.keep hl (fun j _ hj => g4 j (by omega))
        refine ⟨nI e.2.2, σ1, pA σ2 46 (21 + i) (nI a), ?_, ?_, ?_⟩
        · unfold f_X6_widens
          rw [f_hasLine_yes (k := 0) cn.2.1 hl hi, Option.bind_some, if_neg ne10, f_isWidth_i, if_neg hz, Option.bind_some, if_neg ne10, f_widthOf_yes cn cw he, Option.bind_some, if_neg hne, f_lowOf_yes cn hl he, Option.bind_some, f_highOf_yes cn hl he, Option.bind_some, f1]
          rfl
        · obtain ⟨s1, s2, s3⟩ := rr1.2 i e he
          unfold f_X7_widens
          rw [f_isLine_yes rr1 hl hi, Option.bind_some, if_neg ne10, f_in_w, if_neg hz, Option.bind_some, if_neg ne10, il_21, nI_add, gd_h (okI_nI (by omega) (by omega)), nI_clamp (by omega), vl_e, show 21 + i = 0 + 21 + i by omega, s3, if_neg hne, g1, Option.bind_some, gd_h (okI_nI (by omega) (by omega)), vl_e]
        · refine inv_noted hP (u := e.1) (v := e.2.1) (a := a) ?_ hw' (by omega) hm.2.1 (by omega) ?_ ?_ ?_ ?_ ?_ ?_
          · exact ((Fr.mono f2 (by simp) (by simp) (by simp)).tr (Fr.mono g2 (by simp) (by simp) (by simp))).tr (Fr.pA (by simp))
          · exact NetAt.cg f3 (g2.1 4 (by simp)) (g2.1 5 (by simp)) (g2.2.1 4 (by simp)) (g2.2.1 5 (by simp)) (g2.2.1 6 (by simp))
          · rw [hset]
            refine ⟨?_, fun j f hj => ?_⟩
            · rw [gA_pA, if_pos rfl, upd_at, if_neg (by omega), List.length_set]
              exact rr2.1
            · rw [List.getElem?_set] at hj
              unfold RecAt
              rw [gA_pA, if_pos rfl, upd_at, upd_at, upd_at]
              have hjl : j < (Ln n w).length := by
                by_cases q : i = j
                · omega
                · rw [if_neg q] at hj; exact (List.getElem?_eq_some_iff.mp hj).1
              rw [if_neg (by omega), if_neg (by omega)]
              by_cases q : i = j
              · subst q
                rw [if_pos rfl, if_pos hi] at hj
                cases hj
                rw [if_pos (by omega)]
                obtain ⟨s1, s2, s3⟩ := rr2.2 i e he
                exact ⟨s1, s2, rfl⟩
              · rw [if_neg q] at hj
                rw [if_neg (by omega)]
                exact rr2.2 j f hj
          · show gI σ2 14 = _
            rw [g2.1 14 (by simp)]; exact f4
          · exact g3
          · show NotedC σ σ2 H.length e.1 e.2.1 (w e.1 e.2.1)
            unfold NotedC
            rw [g2.2.1 25 (by simp), g2.2.1 26 (by simp), g2.2.1 27 (by simp)]
            exact f5
          · have e46 : gA σ1 46 = gA σ 46 := f2.2.1 46 (by simp)
            rw [e46] at g5 g6 g7
            have out : ∀ j, 31 ≤ j → gA (pA σ2 46 (21 + i) (nI a)) 46 j = gA σ2 46 j := fun j hj => by rw [gA_pA, if_pos rfl, upd_at, if_neg (by omega)]
            exact ⟨fun j hj => by rw [out j (by omega)]; exact g5 j hj, fun hc => ⟨fun j h1 h2 => by rw [out j (by omega)]; exact (g6 hc).1 j h2, fun i hi => by rw [out _ (by omega)]; exact (g6 hc).2 i hi⟩, fun hc => ⟨fun j h1 h2 => by rw [out j (by omega)]; exact (g7 hc).1 j h1 h2, fun i hi => by rw [out _ (by omega)]; exact (g7 hc).2 i hi⟩⟩
