/-! width, count; nets without a line -/
theorem S_width (x y : Int32) {σ : Sg} (h : Inv σ) : ∃ r, f_X6_width σ x y = some r ∧ f_X7_width σ x y = some r := by
  obtain ⟨n, w, H, c, len, ⟨cw, cn, c17, cr⟩, hH, hI, hT, hS, hWR⟩ := h
  have hn := cw.2.1
  have h2n := cw.1
  have hl := cw.2.2.2.2.2
  rcases nodes_cases hn x y with hx | hy | ⟨u, v, hu, hv, rfl, rfl⟩
  · refine ⟨-1, ?_, ?_⟩
    · unfold f_X6_width
      rw [f_hasNode_no (k := 0) cn.1 hx, Option.bind_some, if_pos rfl]
    · unfold f_X7_width
      rw [f_isNode_no c17 h2n hn hx, Option.bind_some, if_pos rfl]
  · refine ⟨-1, ?_, ?_⟩
    · unfold f_X6_width
      rcases node_cases hn x with hx | ⟨u, hu, rfl⟩
      · rw [f_hasNode_no (k := 0) cn.1 hx, Option.bind_some, if_pos rfl]
      · rw [f_hasNode_yes (k := 0) cn.1 hn hu, Option.bind_some, if_neg ne10, f_hasNode_no (k := 0) cn.1 hy, Option.bind_some, if_pos rfl]
    · unfold f_X7_width
      rcases node_cases hn x with hx | ⟨u, hu, rfl⟩
      · rw [f_isNode_no c17 h2n hn hx, Option.bind_some, if_pos rfl]
      · rw [f_isNode_yes c17 hn hu, Option.bind_some, if_neg ne10, f_isNode_no c17 h2n hn hy, Option.bind_some, if_pos rfl]
  · by_cases huv : u = v
    · subst huv
      refine ⟨nI (dg n w u), ?_, ?_⟩
      · unfold f_X6_width
        rw [f_hasNode_yes (k := 0) cn.1 hn hu, Option.bind_some, if_neg ne10, Option.bind_some, if_neg ne10, if_pos rfl, f_degree_yes cn hn hu, Option.bind_some]
      · unfold f_X7_width
        rw [f_isNode_yes c17 hn hu, Option.bind_some, if_neg ne10, Option.bind_some, if_neg ne10, if_pos rfl, m9, f_mdegree_yes cr hl (Ln_b hn) (by omega) noN, Option.bind_some, dgW_none, dg_dgL cw hu]
    · have hne : ¬ nI u = nI v := by rw [nI_eq (by omega) (by omega)]; exact huv
      refine ⟨nI (w u v), ?_, ?_⟩
      · unfold f_X6_width
        rw [f_hasNode_yes (k := 0) cn.1 hn hu, Option.bind_some, if_neg ne10, f_hasNode_yes (k := 0) cn.1 hn hv, Option.bind_some, if_neg ne10, if_neg hne, f_widthAt_yes cn hn hu hv, Option.bind_some]
      · unfold f_X7_width
        rw [f_isNode_yes c17 hn hu, Option.bind_some, if_neg ne10, f_isNode_yes c17 hn hv, Option.bind_some, if_neg ne10, if_neg hne, il_0]
        rcases f_lineOf_w (r := 0) cw (by omega) cr hu hv huv with ⟨hw0, hlo⟩ | ⟨hw0, i, hi, hlo⟩
        · rw [hlo, Option.bind_some, if_pos rfl, hw0]
        · have hlt : i < (Ln n w).length := (List.getElem?_eq_some_iff.mp hi).1
          obtain ⟨s1, s2, s3⟩ := cr.2 i _ hi
          rw [Nat.zero_add] at s3
          rw [hlo, Option.bind_some, if_neg (nI_m9 (by omega)), il_21, nI_add, gd_h (okI_nI (by omega) (by omega)), nI_clamp (by omega), s3]
theorem S_count (x : Int32) {σ : Sg} (h : Inv σ) : ∃ r σ2, f_X6_count σ x = some r ∧ f_X7_count σ x = some (r, σ2) ∧ Inv σ2 := by
  obtain ⟨n, w, H, c, len, hP⟩ := h
  have hinv : Inv σ := ⟨n, w, H, c, len, hP⟩
  have hC : Cur σ n w := hP.1
  obtain ⟨⟨cw, cn, c17, cr⟩, hH, hI, hT, hS, hWR⟩ := id hP
  unfold f_X6_count f_X7_count
  by_cases c0 : x = 0
  · exact ⟨nI n, σ, by rw [if_pos c0]; exact congrArg some cn.1, by rw [if_pos c0, c17], hinv⟩
  by_cases c1 : x = 1
  · exact ⟨nI (Ln n w).length, σ, by rw [if_neg c0, if_pos c1]; exact congrArg some cn.2.1, by rw [if_neg c0, if_pos c1, f_lines_yes cr, Option.bind_some], hinv⟩
  by_cases c2 : x = 2
  · exact ⟨nI (whl (Ln n w)), σ, by rw [if_neg c0, if_neg c1, if_pos c2, f_whole_yes cn cw, Option.bind_some], by rw [if_neg c0, if_neg c1, if_pos c2, f_mwhole_yes cr cw.2.2.2.2.2, Option.bind_some], hinv⟩
  by_cases c3 : x = 3
  · obtain ⟨σ1, a1, a2⟩ := hC.hg (l := none) noN
    rw [Lx_none] at a1
    refine ⟨bI (tog n (fo (Ln n w)).2), σ1, ?_, ?_, ⟨n, w, H, c, len, hP.sm (FrX.sm a2.x hWR)⟩⟩
    · rw [if_neg c0, if_neg c1, if_neg c2, if_pos c3, f_hangs_yes cw cn, Option.bind_some]
      cases tog n (fo (Ln n w)).2 <;> rfl
    · rw [if_neg c0, if_neg c1, if_neg c2, if_pos c3, m9, a1, Option.bind_some]
      cases tog n (fo (Ln n w)).2 <;> rfl
  by_cases c4 : x = 4
  · exact ⟨nI c, σ, by rw [if_neg c0, if_neg c1, if_neg c2, if_neg c3, if_pos c4, hS.2.1], by rw [if_neg c0, if_neg c1, if_neg c2, if_neg c3, if_pos c4, hS.2.2.1], hinv⟩
  by_cases c5 : x = 5
  · exact ⟨nI len, σ, by rw [if_neg c0, if_neg c1, if_neg c2, if_neg c3, if_neg c4, if_pos c5, hT.2.1], by rw [if_neg c0, if_neg c1, if_neg c2, if_neg c3, if_neg c4, if_pos c5, hT.2.2.1], hinv⟩
  by_cases c6 : x = 6
  · exact ⟨nI H.length, σ, by rw [if_neg c0, if_neg c1, if_neg c2, if_neg c3, if_neg c4, if_neg c5, if_pos c6, hH.2.1], by rw [if_neg c0, if_neg c1, if_neg c2, if_neg c3, if_neg c4, if_neg c5, if_pos c6, hH.2.2.1], hinv⟩
  · exact ⟨-1, σ, by rw [if_neg c0, if_neg c1, if_neg c2, if_neg c3, if_neg c4, if_neg c5, if_neg c6], by rw [if_neg c0, if_neg c1, if_neg c2, if_neg c3, if_neg c4, if_neg c5, if_neg c6], hinv⟩
/-- scratch: also the net without a line -/
abbrev FrY (σ σ' : Sg) : Prop := Fr [8, 9, 15] [12, 13, 14, 35, 51] [23, 30, 31, 32, 33, 34] σ σ'
abbrev FrL (σ σ' : Sg) : Prop := Fr [8, 9, 15] [12, 13, 14, 35] [30, 31, 32, 33, 34] σ σ'
theorem FrL.y {σ σ' : Sg} (h : FrL σ σ') : FrY σ σ' := Fr.mono h (by simp) (by simp) (by simp)
theorem FrB.l {σ σ' : Sg} (h : FrB σ σ') : FrL σ σ' := Fr.mono h (by simp) (by simp) (by simp)
theorem FrX.y {σ σ' : Sg} (h : FrX σ σ') : FrY σ σ' := Fr.mono h (by simp) (by simp) (by simp)
theorem FrY.sm {σ σ' : Sg} (h : FrY σ σ') (hw : WR σ) : Sm σ σ' := Fr.sm h hw (by decide) (by decide) (by decide)
theorem Cur.fy {σ σ' : Sg} {n : Nat} {w : Nat → Nat → Nat} (h : Cur σ n w) (f : FrY σ σ') : Cur σ' n w := ⟨h.1, h.2.1.cg (f.1 _ (by decide)) (f.1 _ (by decide)) (f.2.1 _ (by decide)) (f.2.1 _ (by decide)) (f.2.1 _ (by decide)), (f.1 _ (by decide)).trans h.2.2.1, h.2.2.2.cg (f.2.1 _ (by decide))⟩
theorem f_leaveOut_yes {σ : Sg} {n l : Nat} {w : Nat → Nat → Nat} (hC : Cur σ n w) (hl : l < (Ln n w).length) : ∃ σ' w', f_X6_leaveOut σ (nI l) = some σ' ∧ FrL σ σ' ∧ wok n w' ∧ NetAt σ' 2 n w' ∧ Ln n w' = (Ln n w).eraseIdx l := by
  obtain ⟨cw, cn, c17, cr⟩ := id hC
  have hn := cw.2.1
  have hlen := cw.2.2.2.2.2
  obtain ⟨e, he⟩ : ∃ e, (Ln n w)[l]? = some e := ⟨_, List.getElem?_eq_getElem hl⟩
  have hm := mem_Ln.mp (List.mem_of_getElem? he)
  have hcut := Ln_cut cw he
  have hl2 : ((Ln n w).eraseIdx l).length = (Ln n w).length - 1 := by rw [List.length_eraseIdx, if_pos hl]
  have hw' : wok n (w2 w e.1 e.2.1 0) := w2_wok cw (by omega) (by omega) (by rw [hcut, hl2]; omega)
  obtain ⟨σ1, p1, p2, p3⟩ := f_copyFrom_yes (σ := σ) (k := 2) (j := 0) (by omega) cw ⟨cn.1, cn.2.2.1⟩
  have F1 : FrL σ σ1 := Fr.mono p2 (by simp) (by simp) (by simp)
  have C1 := hC.fy F1.y
  obtain ⟨σ2, q1, q2, q3⟩ := f_put_yes (σ := σ1) (k := 2) (n := n) (u := e.1) (v := e.2.1) (a := 0) (w := w) hn ⟨p3.1, p3.2.2.1⟩ (by omega) hm.2.1 (by omega) hw'
  have F2 : FrL σ1 σ2 := Fr.mono q2 (by simp) (by simp) (by simp)
  refine ⟨σ2, w2 w e.1 e.2.1 0, ?_, F1.tr F2, hw', q3, hcut⟩
  unfold f_X6_leaveOut
  rw [p1, Option.bind_some, f_lowOf_yes C1.2.1 hlen he, Option.bind_some, f_highOf_yes C1.2.1 hlen he, Option.bind_some, il_0, q1, Option.bind_some]
def ri (n : Nat) (w : Nat → Nat → Nat) (l : Nat) : Nat := ss (tT n) ((Ln n w).eraseIdx l)
theorem f_tw_yes {σ : Sg} {n l : Nat} {w : Nat → Nat → Nat} (hC : Cur σ n w) (hl : l < (Ln n w).length) : ∃ σ', f_X6_treesWithout σ (nI l) = some (lN (ri n w l), σ') ∧ FrL σ σ' := by
  obtain ⟨σ1, w', a1, a2, a3, a4, a5⟩ := f_leaveOut_yes hC hl
  obtain ⟨σ2, b1, b2⟩ := f_treeSum_yes (kn := 2) (Or.inr rfl) a3 a4
  refine ⟨σ2, ?_, a2.tr b2.l⟩
  unfold f_X6_treesWithout ri
  rw [a1, Option.bind_some, b1, Option.bind_some, a5]
theorem ss_mono {S L : List (Nat × Nat × Nat)} (h : S.Sublist L) : ∀ F : List (Nat × Nat × Nat) → Nat, ss F S ≤ ss F L := by
  induction h with
  | slnil => exact fun F => Nat.le_refl _
  | cons a _ ih => exact fun F => Nat.le_trans (ih F) (Nat.le_add_right _ _)
  | cons_cons a _ ih => exact fun F => Nat.add_le_add (ih F) (ih (fun S => F (a :: S)))
theorem ri_le (n : Nat) (w : Nat → Nat → Nat) (l : Nat) : ri n w l ≤ ss (tT n) (Ln n w) := ss_mono (List.eraseIdx_sublist _ _) _
theorem soN {m l : Nat} (h : l < m) : ∀ k, some l = some k → k < m := fun k q => by cases q; exact h
theorem Cur.tw {σ : Sg} {n l : Nat} {w : Nat → Nat → Nat} (h : Cur σ n w) (hl : l < (Ln n w).length) : ∃ σ', f_X7_treesWith σ (nI l) = some (lN (ss (tT n) (Ln n w) - ri n w l), σ') ∧ Fr51 σ σ' := by
  obtain ⟨σ1, a1, a2⟩ := h.tr (l := none) noN
  obtain ⟨σ2, b1, b2⟩ := (h.fx a2.x).tr (l := some l) (soN hl)
  refine ⟨σ2, ?_, a2.tr b2⟩
  unfold f_X7_treesWith
  rw [m9, a1, Option.bind_some, show nI l = wI (some l) from rfl, b1, Option.bind_some]
  show some (lN (ss (tT n) (Ln n w)) - lN (ri n w l), σ2) = _
  rw [lN_sub (ri_le n w l)]
theorem S_share (x z : Int32) {σ : Sg} (h : Inv σ) : ∃ r σ1 σ2, f_X6_share σ x z = some (r, σ1) ∧ f_X7_share σ1 x z = some (r, σ2) ∧ Inv σ2 := by
  obtain ⟨n, w, H, c, len, hP⟩ := h
  have hinv : Inv σ := ⟨n, w, H, c, len, hP⟩
  have hC : Cur σ n w := hP.1
  obtain ⟨⟨cw, cn, c17, cr⟩, hH, hI, hT, hS, hWR⟩ := id hP
  have hl := cw.2.2.2.2.2
  have h2n := cw.1
  rcases line_cases hl x with hx | ⟨i, hi, rfl⟩
  · refine ⟨-1, σ, σ, ?_, ?_, hinv⟩
    · unfold f_X6_share
      rw [f_hasLine_no (k := 0) cn.2.1 hx, Option.bind_some, if_pos rfl]
    · unfold f_X7_share
      rw [f_isLine_no cr hl hx, Option.bind_some, if_pos rfl]
  · by_cases hz : z < 0 ∨ 1 < z
    · refine ⟨-1, σ, σ, ?_, ?_, hinv⟩
      · unfold f_X6_share
        rw [f_hasLine_yes (k := 0) cn.2.1 hl hi, Option.bind_some, if_neg ne10, isPart_no hz, Option.bind_some, if_pos rfl]
      · unfold f_X7_share
        rw [f_isLine_yes cr hl hi, Option.bind_some, if_neg ne10, f_in_im, if_pos hz, Option.bind_some, if_pos rfl]
    · cases hh : tog n (fo (Ln n w)).2
      · obtain ⟨σ1, a1, a2⟩ := hC.hg (l := none) noN
        rw [Lx_none, hh] at a1
        refine ⟨-2, σ, σ1, ?_, ?_, ⟨n, w, H, c, len, hP.sm (FrX.sm a2.x hWR)⟩⟩
        · unfold f_X6_share
          rw [f_hasLine_yes (k := 0) cn.2.1 hl hi, Option.bind_some, if_neg ne10, isPart_yes hz, Option.bind_some, if_neg ne10, f_hangs_yes cw cn, Option.bind_some, hh, if_pos bIf]
        · unfold f_X7_share
          rw [f_isLine_yes cr hl hi, Option.bind_some, if_neg ne10, f_in_im, if_neg hz, Option.bind_some, if_neg ne10, m9, a1, Option.bind_some, if_pos bIf]
      · have hCC := (tog_iff (by omega) _).mp hh
        obtain ⟨σ1, s1, s2⟩ := f_treeSum_yes (kn := 0) (Or.inl rfl) cw cn
        have C1 := hC.fx s2.x
        obtain ⟨σ2, t1, t2⟩ := f_tw_yes C1 hi
        have C2 := C1.fy t2.y
        obtain ⟨σ3, a1, a2⟩ := C2.hg (l := none) noN
        have C3 := C2.fx a2.x
        obtain ⟨σ4, b1, b2⟩ := C3.tw hi
        have C4 := C3.fx b2.x
        obtain ⟨σ5, d1, d2⟩ := C4.tr (l := none) noN
        rw [Lx_none, hh] at a1
        rw [Lx_none] at d1
        have hT0 := tree_pos (by omega) LnB LnZ hCC
        have bT := T_bd cw
        obtain ⟨r, p1, p2⟩ := f_part_both (a := ss (tT n) (Ln n w) - ri n w i) (b := ss (tT n) (Ln n w)) (by omega) (by omega) (by omega) z
        refine ⟨r, σ2, σ5, ?_, ?_, ⟨n, w, H, c, len, hP.sm (FrY.sm ((((s2.x.y.tr t2.y).tr a2.x.y).tr b2.x.y).tr d2.x.y) hWR)⟩⟩
        · unfold f_X6_share
          rw [f_hasLine_yes (k := 0) cn.2.1 hl hi, Option.bind_some, if_neg ne10, isPart_yes hz, Option.bind_some, if_neg ne10, f_hangs_yes cw cn, Option.bind_some, hh, if_neg bIt, s1, Option.bind_some, t1, Option.bind_some]
          dsimp only
          rw [lN_sub (ri_le n w i), p1, Option.bind_some]
        · unfold f_X7_share
          rw [f_isLine_yes C2.2.2.2 hl hi, Option.bind_some, if_neg ne10, f_in_im, if_neg hz, Option.bind_some, if_neg ne10, m9, a1, Option.bind_some, if_neg bIt, b1, Option.bind_some, d1, Option.bind_some]
          dsimp only
          rw [p2, Option.bind_some]
theorem f_rests_yes {σ : Sg} {n : Nat} {w : Nat → Nat → Nat} (hC : Cur σ n w) : ∃ σ', f_X6_countRests σ = some σ' ∧ FrY σ σ' ∧ ∀ l, l < (Ln n w).length → gJ σ' 23 l = lN (ri n w l) := by
  have hl := hC.1.2.2.2.2.2
  unfold f_X6_countRests
  have key := wl_inv (body := fun a : Int32 × Sg => f_X6_countRests_B2 a.1 a.2) (N := (Ln n w).length) (I := fun i (a : Int32 × Sg) => a.1 = nI i ∧ FrY σ a.2 ∧ ∀ l, l < i → gJ a.2 23 l = lN (ri n w l)) (Post := fun b : Sg => FrY σ b ∧ ∀ l, l < (Ln n w).length → gJ b 23 l = lN (ri n w l)) (fun i a hi hI => ?_) FU 0 ((0 : Int32), σ) ⟨rfl, Fr.rf, fun l hl => by omega⟩ (Nat.zero_le _) (FU_big (by omega))
  · obtain ⟨σ', k1, k2, k3⟩ := key
    rw [k1]
    exact ⟨σ', rfl, k2, k3⟩
  · obtain ⟨x, σ1⟩ := a
    obtain ⟨hx, hF, hA⟩ := hI
    dsimp only at hx hF hA ⊢
    subst hx
    have C1 := hC.fy hF
    have h5 : gI σ1 5 = nI (Ln n w).length := C1.2.1.2.1
    unfold f_X6_countRests_B2
    by_cases he : i = (Ln n w).length
    · subst he
      exact ⟨.inr σ1, by rw [h5, if_pos (nI_le (Nat.le_refl _) (by omega))], Or.inr ⟨σ1, rfl, hF, hA⟩⟩
    · have hlt : i < (Ln n w).length := by omega
      obtain ⟨σ2, t1, t2⟩ := f_tw_yes C1 hlt
      refine ⟨.inl (nI (i + 1), pJ σ2 23 i (lN (ri n w i))), ?_, Or.inl ⟨_, rfl, hlt, rfl, (hF.tr t2.y).tr (Fr.pJ (by simp)), fun l hl => ?_⟩⟩
      · rw [h5, if_neg (nI_ge hlt (by omega)), t1, Option.bind_some, gd_h (okI_nI (by omega) (by omega)), nI_clamp (by omega), vl_e, vl_e, nI_1]
      · dsimp only
        rw [gJ_pJ, if_pos rfl, updL_at]
        by_cases c : l = i
        · rw [if_pos c, c]
        · rw [if_neg c, t2.2.2.1 23 (by decide)]
          exact hA l (by omega)
/-- how many lines are ahead -/
def ah (n : Nat) (w : Nat → Nat → Nat) (l o : Nat) : Nat := if ri n w o < ri n w l ∨ (ri n w o = ri n w l ∧ o < l) then 1 else 0
def ra (n : Nat) (w : Nat → Nat → Nat) (l i : Nat) : Nat := ((List.range i).map (ah n w l)).sum
theorem f_ranked_yes {σ : Sg} {n l : Nat} {w : Nat → Nat → Nat} (cw : wok n w) (h5 : gI σ 5 = nI (Ln n w).length) (hr : ∀ l, l < (Ln n w).length → gJ σ 23 l = lN (ri n w l)) (hl : l < (Ln n w).length) : f_X6_linesRankedAhead σ (nI l) = some (nI (ra n w l (Ln n w).length)) := by
  have hlen := cw.2.2.2.2.2
  have bT := T_bd cw
  have br : ∀ o, ri n w o < 2 ^ 63 := fun o => by have := ri_le n w o; omega
  unfold f_X6_linesRankedAhead
  have key := wl_run (body := fun a : Int32 × Int32 => f_X6_linesRankedAhead_B4 σ (nI l) a.1 a.2) (fun i => (nI (ra n w l i), nI i)) (Ln n w).length (b := nI (ra n w l (Ln n w).length)) (fun i hi => ?_) ?_ FU (FU_big (by omega))
  · rw [show ((0 : Int32), (0 : Int32)) = (nI (ra n w l 0), nI 0) from rfl, key]
    rfl
  · dsimp only
    have hs : ra n w l (i + 1) = ra n w l i + ah n w l i := sum_range_succ _ _
    unfold f_X6_linesRankedAhead_B4
    rw [h5, if_neg (nI_ge hi (by omega)), gd_h (okI_nI (by omega) (by omega)), gd_h (okI_nI (by omega) (by omega)), nI_clamp (by omega), nI_clamp (by omega), hr i hi, hr l hl, hs]
    unfold ah
    by_cases c1 : ri n w i < ri n w l
    · rw [if_pos ((lN_lt' (br i) (br l)).mpr c1), if_pos (Or.inl c1), vl_e, vl_e, nI_1, nI_1]
    · rw [if_neg (fun q => c1 ((lN_lt' (br i) (br l)).mp q)), gd_h (okI_nI (by omega) (by omega)), gd_h (okI_nI (by omega) (by omega))]
      by_cases c2 : ri n w i = ri n w l
      · rw [if_pos (by rw [c2])]
        by_cases c3 : i < l
        · rw [if_neg (nI_ge c3 (by omega)), if_pos (Or.inr ⟨c2, c3⟩), vl_e, vl_e, nI_1, nI_1]
        · rw [if_pos (nI_le (by omega) (by omega)), if_neg (by omega), vl_e, nI_1]
          rfl
      · rw [if_neg (fun q => c2 ((lN_e (br i) (br l)).mp q)), if_neg (by omega), vl_e, nI_1]
        rfl
  · dsimp only
    unfold f_X6_linesRankedAhead_B4
    rw [h5, if_pos (nI_le (Nat.le_refl _) (by omega))]
theorem f_mranked_yes {σ : Sg} {n l : Nat} {w : Nat → Nat → Nat} (hC : Cur σ n w) (hl : l < (Ln n w).length) : ∃ σ', wl (fun a : Int32 × Int32 × Sg => f_X7_rank_B33 (nI l) a.1 a.2.1 a.2.2) FU ((0 : Int32), (0 : Int32), σ) = some (nI (ra n w l (Ln n w).length), σ') ∧ Fr51 σ σ' := by
  have cw := hC.1
  have hlen := cw.2.2.2.2.2
  have bT := T_bd cw
  have br : ∀ o, ri n w o ≤ ss (tT n) (Ln n w) := fun o => ri_le n w o
  have key := wl_inv (body := fun a : Int32 × Int32 × Sg => f_X7_rank_B33 (nI l) a.1 a.2.1 a.2.2) (N := (Ln n w).length) (I := fun i (a : Int32 × Int32 × Sg) => a.1 = nI (ra n w l i) ∧ a.2.1 = nI i ∧ Fr51 σ a.2.2) (Post := fun b : Int32 × Sg => b.1 = nI (ra n w l (Ln n w).length) ∧ Fr51 σ b.2) (fun i a hi hI => ?_) FU 0 ((0 : Int32), (0 : Int32), σ) ⟨rfl, rfl, Fr.rf⟩ (Nat.zero_le _) (FU_big (by omega))
  · obtain ⟨⟨x, σ'⟩, k1, k2, k3⟩ := key
    dsimp only at k2 k3
    subst k2
    exact ⟨σ', k1, k3⟩
  · obtain ⟨x, y, σ1⟩ := a
    obtain ⟨hx, hy, hF⟩ := hI
    dsimp only at hx hy hF ⊢
    subst hx
    subst hy
    have C1 := hC.fx hF.x
    by_cases he : i = (Ln n w).length
    · subst he
      refine ⟨.inr (nI (ra n w l (Ln n w).length), σ1), ?_, Or.inr ⟨_, rfl, rfl, hF⟩⟩
      unfold f_X7_rank_B33
      rw [f_lines_yes C1.2.2.2, Option.bind_some, if_pos (nI_le (Nat.le_refl _) (by omega))]
    · have hlt : i < (Ln n w).length := by omega
      have hs : ra n w l (i + 1) = ra n w l i + ah n w l i := sum_range_succ _ _
      obtain ⟨σ2, a1, a2⟩ := C1.tw hlt
      have C2 := C1.fx a2.x
      obtain ⟨σ3, b1, b2⟩ := C2.tw hl
      have C3 := C2.fx b2.x
      obtain ⟨σ4, d1, d2⟩ := C3.tw hlt
      have C4 := C3.fx d2.x
      obtain ⟨σ5, e1, e2⟩ := C4.tw hl
      have r1 := br i
      have r2 := br l
      have go : ∀ v σ6, Fr51 σ1 σ6 → f_X7_rank_B33 (nI l) (nI (ra n w l i)) (nI i) σ1 = some (.inl (nI (ra n w l i + v), nI (i + 1), σ6)) → ah n w l i = v → ∃ r, f_X7_rank_B33 (nI l) (nI (ra n w l i)) (nI i) σ1 = some r ∧ ((∃ a', r = .inl a' ∧ i < (Ln n w).length ∧ (a'.1 = nI (ra n w l (i + 1)) ∧ a'.2.1 = nI (i + 1) ∧ Fr51 σ a'.2.2)) ∨ ∃ b, r = .inr b ∧ (b.1 = nI (ra n w l (Ln n w).length) ∧ Fr51 σ b.2)) := by
        intro v σ6 f6 h1 h2
        exact ⟨_, h1, Or.inl ⟨_, rfl, hlt, by rw [hs, h2], rfl, hF.tr f6⟩⟩
      have hb0 : f_X7_rank_B33 (nI l) (nI (ra n w l i)) (nI i) σ1 = (if lN (ss (tT n) (Ln n w) - ri n w l) < lN (ss (tT n) (Ln n w) - ri n w i) then f_X7_rank_J79 (nI (ra n w l i)) (nI i) σ3 else (f_X7_treesWith σ3 (nI i)).bind (fun t19 => (f_X7_treesWith t19.2 (nI l)).bind (fun t20 => (if t19.1 = t20.1 then (if nI l ≤ nI i then f_X7_rank_J83 (nI (ra n w l i)) (nI i) t20 else f_X7_rank_J79 (nI (ra n w l i)) (nI i) t20.2) else f_X7_rank_J83 (nI (ra n w l i)) (nI i) t20)))) := by
        unfold f_X7_rank_B33
        rw [f_lines_yes C1.2.2.2, Option.bind_some, if_neg (nI_ge hlt (by omega)), a1, Option.bind_some, b1, Option.bind_some]
      by_cases c1 : ri n w i < ri n w l
      · refine go 1 σ3 (a2.tr b2) ?_ ?_
        · rw [hb0, if_pos ((lN_lt' (by omega) (by omega)).mpr (by omega))]
          unfold f_X7_rank_J79
          rw [vl_e, vl_e, nI_1, nI_1]
        · unfold ah
          rw [if_pos (Or.inl c1)]
      · rw [if_neg (fun q => c1 (by have := (lN_lt' (by omega) (by omega)).mp q; omega)), d1, Option.bind_some, e1, Option.bind_some] at hb0
        dsimp only at hb0
        have f5 : Fr51 σ1 σ5 := ((a2.tr b2).tr d2).tr e2
        by_cases c2 : ri n w i = ri n w l
        · rw [if_pos (by rw [c2])] at hb0
          by_cases c3 : i < l
          · refine go 1 σ5 f5 ?_ ?_
            · rw [hb0, if_neg (nI_ge c3 (by omega))]
              unfold f_X7_rank_J79
              rw [vl_e, vl_e, nI_1, nI_1]
            · unfold ah
              rw [if_pos (Or.inr ⟨c2, c3⟩)]
          · refine go 0 σ5 f5 ?_ ?_
            · rw [hb0, if_pos (nI_le (by omega) (by omega))]
              unfold f_X7_rank_J83
              rw [vl_e, vl_e, il_0, nI_add, nI_1]
            · unfold ah
              rw [if_neg (by omega)]
        · rw [if_neg (fun q => c2 (by have := (lN_e (by omega) (by omega)).mp q; omega))] at hb0
          refine go 0 σ5 f5 ?_ ?_
          · rw [hb0]
            unfold f_X7_rank_J83
            rw [vl_e, vl_e, il_0, nI_add, nI_1]
          · unfold ah
            rw [if_neg (by omega)]
theorem S_rank (k : Int32) {σ : Sg} (h : Inv σ) : ∃ r σ1 σ2, f_X6_rank σ k = some (r, σ1) ∧ f_X7_rank σ1 k = some (r, σ2) ∧ Inv σ2 := by
  obtain ⟨n, w, H, c, len, hP⟩ := h
  have hinv : Inv σ := ⟨n, w, H, c, len, hP⟩
  have hC : Cur σ n w := hP.1
  obtain ⟨⟨cw, cn, c17, cr⟩, hH, hI, hT, hS, hWR⟩ := id hP
  have hl := cw.2.2.2.2.2
  have h2n := cw.1
  by_cases hk : 0 ≤ k
  · cases hh : tog n (fo (Ln n w)).2
    · obtain ⟨σ1, a1, a2⟩ := hC.hg (l := none) noN
      rw [Lx_none, hh] at a1
      refine ⟨-2, σ, σ1, ?_, ?_, ⟨n, w, H, c, len, hP.sm (FrX.sm a2.x hWR)⟩⟩
      · unfold f_X6_rank
        rw [if_pos hk, f_hangs_yes cw cn, Option.bind_some, hh, if_pos bIf]
      · unfold f_X7_rank
        rw [if_pos hk, m9, a1, Option.bind_some, if_pos bIf]
    · obtain ⟨σ1, b1, b2, b3⟩ := f_rests_yes hC
      have C1 := hC.fy b2
      obtain ⟨σ2, a1, a2⟩ := C1.hg (l := none) noN
      rw [Lx_none, hh] at a1
      have C2 := C1.fx a2.x
      have key1 := wl_inv (body := fun a : Int32 => f_X6_rank_B25 k σ1 a) (N := (Ln n w).length) (I := fun i (a : Int32) => a = nI i ∧ ∀ j, j < i → nI (ra n w j (Ln n w).length) ≠ k) (Post := fun b : Unit ⊕ (Int32 × Sg) => (b = .inl () ∧ ∀ j, j < (Ln n w).length → nI (ra n w j (Ln n w).length) ≠ k) ∨ ∃ i, b = .inr (nI i, σ1) ∧ i < (Ln n w).length ∧ nI (ra n w i (Ln n w).length) = k ∧ ∀ j, j < i → nI (ra n w j (Ln n w).length) ≠ k) (fun i a hi hI => ?_) FU 0 (0 : Int32) ⟨rfl, fun j hj => by omega⟩ (Nat.zero_le _) (FU_big (by omega))
      · have key2 := wl_inv (body := fun a : Int32 × Sg => f_X7_rank_B20 k a.1 a.2) (N := (Ln n w).length) (I := fun i (a : Int32 × Sg) => a.1 = nI i ∧ Fr51 σ2 a.2 ∧ ∀ j, j < i → nI (ra n w j (Ln n w).length) ≠ k) (Post := fun b : Sg ⊕ (Int32 × Sg) => (∃ σ3, b = .inl σ3 ∧ Fr51 σ2 σ3 ∧ ∀ j, j < (Ln n w).length → nI (ra n w j (Ln n w).length) ≠ k) ∨ ∃ i σ3, b = .inr (nI i, σ3) ∧ Fr51 σ2 σ3 ∧ i < (Ln n w).length ∧ nI (ra n w i (Ln n w).length) = k ∧ ∀ j, j < i → nI (ra n w j (Ln n w).length) ≠ k) (fun i a hi hI => ?_) FU 0 ((0 : Int32), σ2) ⟨rfl, Fr.rf, fun j hj => by omega⟩ (Nat.zero_le _) (FU_big (by omega))
        · obtain ⟨p, k1, k2⟩ := key1
          obtain ⟨q, m1, m2⟩ := key2
          have fin : ∀ σ3, Fr51 σ2 σ3 → Inv σ3 := fun σ3 f3 => ⟨n, w, H, c, len, hP.sm (FrY.sm ((b2.tr a2.x.y).tr f3.x.y) hWR)⟩
          have e1 : f_X6_rank σ k = (some p).bind (Sum.elim (fun t10 => some ((-9 : Int32), σ1)) (fun v => some v)) := by
            unfold f_X6_rank
            rw [if_pos hk, f_hangs_yes cw cn, Option.bind_some, hh, if_neg bIt, b1, Option.bind_some, k1]
          have e2 : f_X7_rank σ1 k = (some q).bind (Sum.elim (fun t28 => some ((-9 : Int32), t28)) (fun v => some v)) := by
            unfold f_X7_rank
            rw [if_pos hk, show (f_X7_hangs σ1 (-9 : Int32)) = _ from a1, Option.bind_some, if_neg bIt, m1]
          rcases k2 with ⟨rfl, k3⟩ | ⟨i, rfl, k3, k4, k5⟩
          · rcases m2 with ⟨σ3, rfl, f3, m3⟩ | ⟨j, σ3, rfl, f3, m3, m4, m5⟩
            · exact ⟨-9, σ1, σ3, e1, e2, fin σ3 f3⟩
            · exact absurd m4 (k3 j m3)
          · rcases m2 with ⟨σ3, rfl, f3, m3⟩ | ⟨j, σ3, rfl, f3, m3, m4, m5⟩
            · exact absurd k4 (m3 i k3)
            · have hij : i = j := by
                rcases Nat.lt_trichotomy i j with q | q | q
                · exact absurd k4 (m5 i q)
                · exact q
                · exact absurd m4 (k5 j q)
              subst hij
              exact ⟨nI i, σ1, σ3, e1, e2, fin σ3 f3⟩
        · obtain ⟨x, σ3⟩ := a
          obtain ⟨hx, hF, hA⟩ := hI
          dsimp only at hx hF hA ⊢
          subst hx
          have C3 := C2.fx hF.x
          by_cases he : i = (Ln n w).length
          · subst he
            refine ⟨.inr (.inl σ3), ?_, Or.inr ⟨_, rfl, Or.inl ⟨σ3, rfl, hF, hA⟩⟩⟩
            unfold f_X7_rank_B20
            rw [f_lines_yes C3.2.2.2, Option.bind_some, if_pos (nI_le (Nat.le_refl _) (by omega))]
          · have hlt : i < (Ln n w).length := by omega
            obtain ⟨σ4, g1, g2⟩ := f_mranked_yes C3 hlt
            by_cases ck : nI (ra n w i (Ln n w).length) = k
            · refine ⟨.inr (.inr (nI i, σ4)), ?_, Or.inr ⟨_, rfl, Or.inr ⟨i, σ4, rfl, hF.tr g2, hlt, ck, hA⟩⟩⟩
              unfold f_X7_rank_B20
              rw [f_lines_yes C3.2.2.2, Option.bind_some, if_neg (nI_ge hlt (by omega)), g1, Option.bind_some, if_pos ck]
            · refine ⟨.inl (nI (i + 1), σ4), ?_, Or.inl ⟨_, rfl, hlt, rfl, hF.tr g2, fun j hj => ?_⟩⟩
              · unfold f_X7_rank_B20
                rw [f_lines_yes C3.2.2.2, Option.bind_some, if_neg (nI_ge hlt (by omega)), g1, Option.bind_some, if_neg ck, vl_e, nI_1]
              · by_cases cj : j = i
                · rw [cj]
                  exact ck
                · exact hA j (by omega)
      · obtain ⟨rfl, hA⟩ := hI
        by_cases he : i = (Ln n w).length
        · subst he
          refine ⟨.inr (.inl ()), ?_, Or.inr ⟨_, rfl, Or.inl ⟨rfl, hA⟩⟩⟩
          unfold f_X6_rank_B25
          rw [C1.2.1.2.1, if_pos (nI_le (Nat.le_refl _) (by omega))]
        · have hlt : i < (Ln n w).length := by omega
          have g1 := f_ranked_yes cw C1.2.1.2.1 b3 hlt
          by_cases ck : nI (ra n w i (Ln n w).length) = k
          · refine ⟨.inr (.inr (nI i, σ1)), ?_, Or.inr ⟨_, rfl, Or.inr ⟨i, rfl, hlt, ck, hA⟩⟩⟩
            unfold f_X6_rank_B25
            rw [C1.2.1.2.1, if_neg (nI_ge hlt (by omega)), g1, Option.bind_some, if_pos ck]
          · refine ⟨.inl (nI (i + 1)), ?_, Or.inl ⟨_, rfl, hlt, rfl, fun j hj => ?_⟩⟩
            · unfold f_X6_rank_B25
              rw [C1.2.1.2.1, if_neg (nI_ge hlt (by omega)), g1, Option.bind_some, if_neg ck, vl_e, nI_1]
            · by_cases cj : j = i
              · rw [cj]
                exact ck
              · exact hA j (by omega)
  · exact ⟨-1, σ, σ, by unfold f_X6_rank; rw [if_neg hk], by unfold f_X7_rank; rw [if_neg hk], hinv⟩
