theorem image_cases (x : Int32) : (x < 0 ∨ 1 < x) ∨ x = nI 0 ∨ x = nI 1 := by
  rcases pk_ix x (n := 2) (by omega) with h | h | ⟨j, h1, h2⟩
  · exact Or.inl (Or.inl h)
  · refine Or.inl (Or.inr (Int32.lt_of_lt_of_le (b := 2) (by decide) h))
  · rcases (show j = 0 ∨ j = 1 by omega) with q | q
    · exact Or.inr (Or.inl (by rw [h2, q]))
    · exact Or.inr (Or.inr (by rw [h2, q]))
theorem f_isImage_no {x : Int32} (h : x < 0 ∨ 1 < x) : f_X6_isImage x = some 0 := by
  unfold f_X6_isImage
  by_cases c : x < 0
  · rw [if_pos c]
  · rw [if_neg c]
    have h1 := h.resolve_left c
    have h2 : (2 : Int32) ≤ x := by
      have := Int32.lt_iff_toInt_lt.mp h1
      rw [Int32.le_iff_toInt_le]
      have e1 : (1 : Int32).toInt = 1 := rfl
      have e2 : (2 : Int32).toInt = 2 := rfl
      omega
    rw [if_pos h2]
theorem f_isImage_yes {j : Nat} (h : j < 2) : f_X6_isImage (nI j) = some 1 := by
  rcases (show j = 0 ∨ j = 1 by omega) with q | q <;> subst q <;> rfl
theorem f_in_im (x : Int32) : f_X7_in x.toInt64 (0 : Int64) (1 : Int64) = if x < 0 ∨ 1 < x then some 0 else some 1 := by
  rw [show (0 : Int64) = (0 : Int32).toInt64 from rfl, show (1 : Int64) = (1 : Int32).toInt64 from rfl, f_in_i]
theorem nim {j : Nat} (h : j < 2) : ¬ (nI j < 0 ∨ 1 < nI j) := by
  rcases (show j = 0 ∨ j = 1 by omega) with q | q <;> subst q <;> decide
theorem S_keep (x : Int32) {σ : Sg} (h : Inv σ) : ∃ r σ1 σ2, f_X6_keep σ x = some (r, σ1) ∧ f_X7_keep σ1 x = some (r, σ2) ∧ Inv σ2 := by
  obtain ⟨n, w, H, c, len, hP⟩ := h
  have hinv : Inv σ := ⟨n, w, H, c, len, hP⟩
  obtain ⟨⟨cw, cn, c17, cr⟩, hH, hI, hT, hS, hWR⟩ := id hP
  have hn := cw.2.1
  have hl := cw.2.2.2.2.2
  have main : ∀ j : Nat, j < 2 → ∃ r σ1 σ2, f_X6_keep σ (nI j) = some (r, σ1) ∧ f_X7_keep σ1 (nI j) = some (r, σ2) ∧ Inv σ2 := by
    intro j hj
    obtain ⟨σ1, p1, p2, p3⟩ := f_copyFrom_yes (σ := σ) (k := 3 + j) (j := 0) (by omega) cw ⟨cn.1, cn.2.2.1⟩
    obtain ⟨σ2, q1, q2, q3, q4⟩ := f_copyRow_yes (σ := pA σ1 44 j 1) (a := 0) (b := 403 + 31 * j) (by omega) (by omega) (by omega)
    have p46 : gA σ1 46 = gA σ 46 := p2.2.1 46 (by simp; omega)
    have p17 : gI σ1 17 = nI n := by rw [p2.1 17 (by simp; omega)]; exact c17
    have p4 : gI σ1 4 = nI n := by rw [p2.1 4 (by simp; omega)]; exact cn.1
    refine ⟨nI n, pA σ1 44 j 1, pA σ2 47 j 1, ?_, ?_, n, w, H, c, len, ?_, ?_, ?_, ?_, ?_, ?_⟩
    · unfold f_X6_keep
      rw [f_isImage_yes hj, Option.bind_some, if_neg ne10, gd_h (okI_nI hj (by omega)), nI_clamp (by omega), p1, Option.bind_some, gd_h (okI_nI hj (by omega)), vl_e, gI_pA, p4]
    · unfold f_X7_keep
      rw [f_in_im, if_neg (nim hj), Option.bind_some, if_neg ne10, show (403 : Int32) = nI 403 from rfl, il_31, il_0, pk_mul, nI_add, q1, Option.bind_some, gd_h (okI_nI hj (by omega)), nI_clamp (by omega), vl_e, gI_pA, q2.1 17 (by simp), gI_pA, p17]
    · refine ⟨cw, cn.cg ?_ ?_ ?_ ?_ ?_, ?_, cr.keep hl (fun i _ hi => ?_)⟩
      · rw [gI_pA, q2.1 _ (by simp), gI_pA, p2.1 _ (by simp; omega)]
      · rw [gI_pA, q2.1 _ (by simp), gI_pA, p2.1 _ (by simp; omega)]
      · rw [gA_pA, if_neg (by omega), q2.2.1 _ (by simp), gA_pA, if_neg (by omega), p2.2.1 _ (by simp; omega)]
      · rw [gA_pA, if_neg (by omega), q2.2.1 _ (by simp), gA_pA, if_neg (by omega), p2.2.1 _ (by simp; omega)]
      · rw [gA_pA, if_neg (by omega), q2.2.1 _ (by simp), gA_pA, if_neg (by omega), p2.2.1 _ (by simp; omega)]
      · rw [gI_pA, q2.1 _ (by simp), gI_pA]; exact p17
      · rw [gA_pA, if_neg (by omega), q4 i (by omega), gA_pA, if_neg (by omega), p46]
    · refine ⟨hH.1, ?_, ?_, Past.at (fun i hi => ⟨?_, ?_, ?_, fun a ha => ?_⟩) hH.2.2.2⟩
      · rw [gI_pA, q2.1 _ (by simp), gI_pA, p2.1 _ (by simp; omega)]; exact hH.2.1
      · rw [gI_pA, q2.1 _ (by simp), gI_pA, p2.1 _ (by simp; omega)]; exact hH.2.2.1
      · rw [gA_pA, if_neg (by omega), q2.2.1 _ (by simp), gA_pA, if_neg (by omega), p2.2.1 _ (by simp; omega)]
      · rw [gA_pA, if_neg (by omega), q2.2.1 _ (by simp), gA_pA, if_neg (by omega), p2.2.1 _ (by simp; omega)]
      · rw [gA_pA, if_neg (by omega), q2.2.1 _ (by simp), gA_pA, if_neg (by omega), p2.2.1 _ (by simp; omega)]
      · have := hH.1
        rw [gA_pA, if_neg (by omega), q4 _ (by omega), gA_pA, if_neg (by omega), p46]
    · have im : ∀ i, i < 2 → Img σ n i → Img (pA σ2 47 j 1) n i := by
        intro i hi hIm
        by_cases hij : i = j
        · subst hij
          refine Or.inr ⟨?_, ?_, w, cw, ?_, ?_⟩
          · rw [gA_pA, if_neg (by omega), q2.2.1 _ (by simp), gA_pA, if_pos rfl, upd_at, if_pos rfl]
          · rw [gA_pA, if_pos rfl, upd_at, if_pos rfl]
          · refine p3.cg ?_ ?_ ?_ ?_ ?_
            · rw [gI_pA, q2.1 _ (by simp), gI_pA]
            · rw [gI_pA, q2.1 _ (by simp), gI_pA]
            · rw [gA_pA, if_neg (by omega), q2.2.1 _ (by simp; omega), gA_pA, if_neg (by omega)]
            · rw [gA_pA, if_neg (by omega), q2.2.1 _ (by simp; omega), gA_pA, if_neg (by omega)]
            · rw [gA_pA, if_neg (by omega), q2.2.1 _ (by simp; omega), gA_pA, if_neg (by omega)]
          · refine cr.of hl (fun a ha => ?_)
            rw [gA_pA, if_neg (by omega), q3 a ha, gA_pA, if_neg (by omega), p46]
        · refine hIm.cg ?_ ?_ (fun w' q => q.cg ?_ ?_ ?_ ?_ ?_) (fun L h9 q => q.keep h9 (fun a h1 h2 => ?_))
          · rw [gA_pA, if_neg (by omega), q2.2.1 _ (by simp), gA_pA, if_pos rfl, upd_at, if_neg hij, p2.2.1 _ (by simp; omega)]
          · rw [gA_pA, if_pos rfl, upd_at, if_neg hij, q2.2.1 _ (by simp), gA_pA, if_neg (by omega), p2.2.1 _ (by simp; omega)]
          · rw [gI_pA, q2.1 _ (by simp), gI_pA, p2.1 _ (by simp; omega)]
          · rw [gI_pA, q2.1 _ (by simp), gI_pA, p2.1 _ (by simp; omega)]
          · rw [gA_pA, if_neg (by omega), q2.2.1 _ (by simp; omega), gA_pA, if_neg (by omega), p2.2.1 _ (by simp; omega)]
          · rw [gA_pA, if_neg (by omega), q2.2.1 _ (by simp; omega), gA_pA, if_neg (by omega), p2.2.1 _ (by simp; omega)]
          · rw [gA_pA, if_neg (by omega), q2.2.1 _ (by simp; omega), gA_pA, if_neg (by omega), p2.2.1 _ (by simp; omega)]
          · rw [gA_pA, if_neg (by omega), q4 a (by omega), gA_pA, if_neg (by omega), p46]
      exact ⟨im 0 (by omega) hI.1, im 1 (by omega) hI.2⟩
    · unfold Txt
      rw [gI_pA, q2.1 _ (by simp), gI_pA, p2.1 _ (by simp; omega), gI_pA, q2.1 _ (by simp), gI_pA, p2.1 _ (by simp; omega), gA_pA, if_neg (by omega), q2.2.1 _ (by simp), gA_pA, if_neg (by omega), p2.2.1 _ (by simp; omega), gA_pA, if_neg (by omega), q2.2.1 _ (by simp), gA_pA, if_neg (by omega), p2.2.1 _ (by simp; omega)]
      exact hT
    · unfold Sn
      rw [gI_pA, q2.1 _ (by simp), gI_pA, p2.1 _ (by simp; omega), gI_pA, q2.1 _ (by simp), gI_pA, p2.1 _ (by simp; omega), gJ_pA, q2.2.2.1 _ (by simp), gJ_pA, p2.2.2.1 _ (by simp), gJ_pA, q2.2.2.1 _ (by simp), gJ_pA, p2.2.2.1 _ (by simp)]
      exact hS
    · exact hWR.cg (fun i => by rw [gR_pA, q2.2.2.2, gR_pA, p2.2.2.2])
  rcases image_cases x with hx | rfl | rfl
  · exact ⟨-1, σ, σ, by unfold f_X6_keep; rw [f_isImage_no hx]; rfl, by unfold f_X7_keep; rw [f_in_im, if_pos hx]; rfl, hinv⟩
  · exact main 0 (by omega)
  · exact main 1 (by omega)
theorem S_back (x : Int32) {σ : Sg} (h : Inv σ) : ∃ r σ1 σ2, f_X6_back σ x = some (r, σ1) ∧ f_X7_back σ1 x = some (r, σ2) ∧ Inv σ2 := by
  obtain ⟨n, w, H, c, len, hP⟩ := h
  have hinv : Inv σ := ⟨n, w, H, c, len, hP⟩
  obtain ⟨⟨cw, cn, c17, cr⟩, hH, hI, hT, hS, hWR⟩ := id hP
  have hn := cw.2.1
  have main : ∀ j : Nat, j < 2 → Img σ n j → ∃ r σ1 σ2, f_X6_back σ (nI j) = some (r, σ1) ∧ f_X7_back σ1 (nI j) = some (r, σ2) ∧ Inv σ2 := by
    intro j hj hIm
    rcases hIm with ⟨k1, k2⟩ | ⟨k1, k2, w', kw, kn, kr⟩
    · refine ⟨-2, σ, σ, ?_, ?_, hinv⟩
      · unfold f_X6_back
        rw [f_isImage_yes hj, Option.bind_some, if_neg ne10, gd_h (okI_nI hj (by omega)), nI_clamp (by omega), k1, if_pos rfl]
      · unfold f_X7_back
        rw [f_in_im, if_neg (nim hj), Option.bind_some, if_neg ne10, gd_h (okI_nI hj (by omega)), nI_clamp (by omega), k2, if_pos rfl]
    · obtain ⟨σ1, p1, p2, p3⟩ := f_copyFrom_yes (σ := σ) (k := 0) (j := 3 + j) (by omega) kw ⟨kn.1, kn.2.2.1⟩
      obtain ⟨σ2, q1, q2, q3, q4⟩ := f_copyRow_yes (σ := pI σ1 14 0) (a := 403 + 31 * j) (b := 0) (by omega) (by omega) (by omega)
      have p46 : gA σ1 46 = gA σ 46 := p2.2.1 46 (by simp)
      have fA : ∀ d, d ∉ [4, 5, 6, 46] → gA (pI σ2 18 0) d = gA σ d := by
        intro d hd
        simp only [List.mem_cons, List.not_mem_nil, or_false, not_or] at hd
        rw [gA_pI, q2.2.1 _ (by simp; omega), gA_pI, p2.2.1 _ (by simp; omega)]
      have fI : ∀ d, d ∉ [4, 5, 14, 18] → gI (pI σ2 18 0) d = gI σ d := by
        intro d hd
        simp only [List.mem_cons, List.not_mem_nil, or_false, not_or] at hd
        rw [gI_pI, if_neg hd.2.2.2, q2.1 _ (by simp), gI_pI, if_neg hd.2.2.1, p2.1 _ (by simp; omega)]
      refine ⟨nI n, pI σ1 14 0, pI σ2 18 0, ?_, ?_, n, w', [], c, len, ⟨kw, ?_, ?_, ?_⟩, ⟨by simp, ?_, ?_, trivial⟩, ⟨?_, ?_⟩, ?_, ?_, ?_⟩
      · unfold f_X6_back
        rw [f_isImage_yes hj, Option.bind_some, if_neg ne10, gd_h (okI_nI hj (by omega)), nI_clamp (by omega), k1, if_neg ne10, gd_h (okI_nI hj (by omega)), p1, Option.bind_some, vl_e, show gI (pI σ1 14 0) 4 = nI n from p3.1]
      · unfold f_X7_back
        rw [f_in_im, if_neg (nim hj), Option.bind_some, if_neg ne10, gd_h (okI_nI hj (by omega)), nI_clamp (by omega), gA_pI, p2.2.1 47 (by simp), k2, if_neg ne10, show (403 : Int32) = nI 403 from rfl, il_31, pk_mul, nI_add, show f_X7_copyRow (pI σ1 14 0) (nI (403 + 31 * j)) 0 = some σ2 from q1, Option.bind_some, vl_e, fI 17 (by simp), c17]
      · refine p3.cg ?_ ?_ ?_ ?_ ?_
        · rw [gI_pI, if_neg (by omega), q2.1 _ (by simp), gI_pI, if_neg (by omega)]
        · rw [gI_pI, if_neg (by omega), q2.1 _ (by simp), gI_pI, if_neg (by omega)]
        · rw [gA_pI, q2.2.1 _ (by simp), gA_pI]
        · rw [gA_pI, q2.2.1 _ (by simp), gA_pI]
        · rw [gA_pI, q2.2.1 _ (by simp), gA_pI]
      · rw [fI 17 (by simp)]; exact c17
      · refine kr.of kw.2.2.2.2.2 (fun a ha => ?_)
        rw [gA_pI, q3 a ha, gA_pI, p46]
      · rw [gI_pI, if_neg (by omega), q2.1 _ (by simp), gI_pI, if_pos rfl]; rfl
      · rw [gI_pI, if_pos rfl]; rfl
      · exact hI.1.cg (by rw [fA 44 (by simp)]) (by rw [fA 47 (by simp)]) (fun w q => q.cg (fI 10 (by simp)) (fI 11 (by simp)) (fA 16 (by simp)) (fA 17 (by simp)) (fA 18 (by simp))) (fun L h9 q => q.keep h9 (fun a h1 _ => by rw [gA_pI, q4 a (by omega), gA_pI, p46]))
      · exact hI.2.cg (by rw [fA 44 (by simp)]) (by rw [fA 47 (by simp)]) (fun w q => q.cg (fI 12 (by simp)) (fI 13 (by simp)) (fA 20 (by simp)) (fA 21 (by simp)) (fA 22 (by simp))) (fun L h9 q => q.keep h9 (fun a h1 _ => by rw [gA_pI, q4 a (by omega), gA_pI, p46]))
      · unfold Txt
        rw [fI 1 (by simp), fI 19 (by simp), fA 2 (by simp), fA 48 (by simp)]
        exact hT
      · unfold Sn
        rw [fI 0 (by simp), fI 20 (by simp), gJ_pI, q2.2.2.1 _ (by simp), gJ_pI, p2.2.2.1 _ (by simp), gJ_pI, q2.2.2.1 _ (by simp), gJ_pI, p2.2.2.1 _ (by simp)]
        exact hS
      · exact hWR.cg (fun i => by rw [gR_pI, q2.2.2.2, gR_pI, p2.2.2.2])
  rcases image_cases x with hx | rfl | rfl
  · exact ⟨-1, σ, σ, by unfold f_X6_back; rw [f_isImage_no hx]; rfl, by unfold f_X7_back; rw [f_in_im, if_pos hx]; rfl, hinv⟩
  · exact main 0 (by omega) hI.1
  · exact main 1 (by omega) hI.2
/-! asked of lines -/
theorem what2_cases (x : Int32) : (x < 0 ∨ 2 < x) ∨ x = nI 0 ∨ x = nI 1 ∨ x = nI 2 := by
  rcases pk_ix x (n := 3) (by omega) with h | h | ⟨j, h1, h2⟩
  · exact Or.inl (Or.inl h)
  · refine Or.inl (Or.inr (Int32.lt_of_lt_of_le (b := 3) (by decide) h))
  · rcases (show j = 0 ∨ j = 1 ∨ j = 2 by omega) with q | q | q
    · exact Or.inr (Or.inl (by rw [h2, q]))
    · exact Or.inr (Or.inr (Or.inl (by rw [h2, q])))
    · exact Or.inr (Or.inr (Or.inr (by rw [h2, q])))
theorem f_in_02 (x : Int32) : f_X7_in x.toInt64 (0 : Int64) (2 : Int64) = if x < 0 ∨ 2 < x then some 0 else some 1 := by
  rw [show (0 : Int64) = (0 : Int32).toInt64 from rfl, show (2 : Int64) = (2 : Int32).toInt64 from rfl, f_in_i]
theorem S_line (x y : Int32) {σ : Sg} (h : Inv σ) : ∃ r, f_X6_line σ x y = some r ∧ f_X7_line σ x y = some r := by
  obtain ⟨n, w, H, c, len, ⟨cw, cn, c17, cr⟩, hH, hI, hT, hS, hWR⟩ := h
  have hl := cw.2.2.2.2.2
  rcases line_cases hl x with hx | ⟨i, hi, rfl⟩
  · refine ⟨-1, ?_, ?_⟩
    · unfold f_X6_line
      rw [f_hasLine_no (k := 0) cn.2.1 hx]; rfl
    · unfold f_X7_line
      rw [f_isLine_no cr hl hx]; rfl
  · obtain ⟨e, he⟩ : ∃ e, (Ln n w)[i]? = some e := ⟨_, List.getElem?_eq_getElem hi⟩
    obtain ⟨s1, s2, s3⟩ := cr.2 i e he
    rw [Nat.zero_add] at s1 s2 s3
    rcases what2_cases y with hy | rfl | rfl | rfl
    · refine ⟨-1, ?_, ?_⟩
      · unfold f_X6_line
        rw [f_hasLine_yes (k := 0) cn.2.1 hl hi, Option.bind_some, if_neg ne10]
        by_cases c : y < 0
        · rw [if_pos c]
        · rw [if_neg c, if_neg (Int32.not_le.mpr (hy.resolve_left c))]
      · unfold f_X7_line
        rw [f_isLine_yes cr hl hi, Option.bind_some, if_neg ne10, f_in_02, if_pos hy]; rfl
    · refine ⟨nI e.1, ?_, ?_⟩
      · unfold f_X6_line
        rw [f_hasLine_yes (k := 0) cn.2.1 hl hi, Option.bind_some, if_neg ne10, if_neg (by decide), if_pos (by decide), if_pos (by decide), f_lowOf_yes cn hl he]; rfl
      · unfold f_X7_line
        rw [f_isLine_yes cr hl hi, Option.bind_some, if_neg ne10, f_in_02, if_neg (by decide), Option.bind_some, if_neg ne10, if_pos (by decide), il_1, nI_add, gd_h (okI_nI (by omega) (by omega)), nI_clamp (by omega), s1]
    · refine ⟨nI e.2.1, ?_, ?_⟩
      · unfold f_X6_line
        rw [f_hasLine_yes (k := 0) cn.2.1 hl hi, Option.bind_some, if_neg ne10, if_neg (by decide), if_pos (by decide), if_neg (by decide), if_pos (by decide), f_highOf_yes cn hl he]; rfl
      · unfold f_X7_line
        rw [f_isLine_yes cr hl hi, Option.bind_some, if_neg ne10, f_in_02, if_neg (by decide), Option.bind_some, if_neg ne10, if_neg (by decide), if_pos (by decide), il_11, nI_add, gd_h (okI_nI (by omega) (by omega)), nI_clamp (by omega), s2]
    · refine ⟨nI e.2.2, ?_, ?_⟩
      · unfold f_X6_line
        rw [f_hasLine_yes (k := 0) cn.2.1 hl hi, Option.bind_some, if_neg ne10, if_neg (by decide), if_pos (by decide), if_neg (by decide), if_neg (by decide), f_widthOf_yes cn cw he]; rfl
      · unfold f_X7_line
        rw [f_isLine_yes cr hl hi, Option.bind_some, if_neg ne10, f_in_02, if_neg (by decide), Option.bind_some, if_neg ne10, if_neg (by decide), if_neg (by decide), il_21, nI_add, gd_h (okI_nI (by omega) (by omega)), nI_clamp (by omega), s3]
