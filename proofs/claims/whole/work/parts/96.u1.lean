/-! walks and trees: both answer the same -/
abbrev Fr51 (σ σ' : Sg) : Prop := Fr [] [51] [] σ σ'
abbrev FrX (σ σ' : Sg) : Prop := Fr [15] [35, 51] [30, 31, 32, 33, 34] σ σ'
theorem FrB.x {σ σ' : Sg} (h : FrB σ σ') : FrX σ σ' := Fr.mono h (fun _ q => q) (by simp) (fun _ q => q)
theorem Fr51.x {σ σ' : Sg} (h : Fr51 σ σ') : FrX σ σ' := Fr.mono h (by simp) (by simp) (by simp)
theorem FrX.sm {σ σ' : Sg} (h : FrX σ σ') (hw : WR σ) : Sm σ σ' := Fr.sm h hw (by decide) (by decide) (by decide)
theorem Cur.fx {σ σ' : Sg} {n : Nat} {w : Nat → Nat → Nat} (h : Cur σ n w) (f : FrX σ σ') : Cur σ' n w := ⟨h.1, h.2.1.cg (f.1 _ (by decide)) (f.1 _ (by decide)) (f.2.1 _ (by decide)) (f.2.1 _ (by decide)) (f.2.1 _ (by decide)), (f.1 _ (by decide)).trans h.2.2.1, h.2.2.2.cg (f.2.1 _ (by decide))⟩
theorem Cur.hg {σ : Sg} {n : Nat} {w : Nat → Nat → Nat} (h : Cur σ n w) {l : Option Nat} (hlo : ∀ k, l = some k → k < (Ln n w).length) : ∃ σ', f_X7_hangs σ (wI l) = some (bI (tog n (fo (Lx (Ln n w) l)).2), σ') ∧ Fr51 σ σ' := f_mhangs_yes h.2.2.2 h.1.2.2.2.2.2 (Ln_b h.1.2.1) h.2.2.1 h.1.1 h.1.2.1 hlo
theorem Cur.st {σ : Sg} {n u v : Nat} {w : Nat → Nat → Nat} (h : Cur σ n w) {l : Option Nat} (hlo : ∀ k, l = some k → k < (Ln n w).length) (hu : u < n) (hv : v < n) : ∃ σ', f_X7_steps σ (nI u) (nI v) (wI l) = some (lN (ss (sT n (dgL (Lx (Ln n w) l)) u v) (Lx (Ln n w) l)), σ') ∧ Fr51 σ σ' := f_steps_yes h.2.2.2 h.1.2.2.2.2.2 (Ln_b h.1.2.1) (L_b9 h.1) h.2.2.1 h.1.1 h.1.2.1 hu hv hlo
theorem Cur.tr {σ : Sg} {n : Nat} {w : Nat → Nat → Nat} (h : Cur σ n w) {l : Option Nat} (hlo : ∀ k, l = some k → k < (Ln n w).length) : ∃ σ', f_X7_treesBut σ (wI l) = some (lN (ss (tT n) (Lx (Ln n w) l)), σ') ∧ Fr51 σ σ' := by
  have hl := h.1.2.2.2.2.2
  rw [← sset_Lx (Ln n w) l (tT n) hlo]
  exact f_treesBut_yes h.2.2.2 hl (Ln_b h.1.2.1) (L_b9 h.1) h.2.2.1 h.1.1 h.1.2.1 (fun k q => by have := hlo k q; omega)
theorem Cur.ap {σ : Sg} {n a b : Nat} {w : Nat → Nat → Nat} (h : Cur σ n w) {u : Option Nat} (ha : a < n) (hb : b < n) (hu : ∀ x, u = some x → x < n) : ∃ σ', f_X7_apart σ (wI u) (nI a) (nI b) = some (lN (ss (aT n u a b) (Ln n w)), σ') ∧ Fr51 σ σ' := f_apart_yes h.2.2.2 h.1.2.2.2.2.2 (Ln_b h.1.2.1) (L_b9 h.1) h.2.2.1 h.1.1 h.1.2.1 ha hb hu
theorem noN {m : Nat} : ∀ k, (none : Option Nat) = some k → k < m := fun k q => by cases q
theorem Lx_none (L : List (Nat × Nat × Nat)) : Lx L none = L := rfl
theorem m9 : (-9 : Int32) = wI none := rfl
theorem isPart_no {x : Int32} (h : x < 0 ∨ 1 < x) : f_X6_isPart x = some 0 := by
  unfold f_X6_isPart
  rw [if_neg (fun q => by subst q; revert h; decide), if_neg (fun q => by subst q; revert h; decide)]
theorem isPart_yes {x : Int32} (h : ¬ (x < 0 ∨ 1 < x)) : f_X6_isPart x = some 1 := by
  rcases image_cases x with q | rfl | rfl
  · exact absurd q h
  · rfl
  · rfl
theorem bIt : ¬ bI true = 0 := by decide
theorem bIf : bI false = 0 := rfl
theorem S_hitting (x y z : Int32) {σ : Sg} (h : Inv σ) : ∃ r σ1 σ2, f_X6_hitting σ x y z = some (r, σ1) ∧ f_X7_hitting σ1 x y z = some (r, σ2) ∧ Inv σ2 := by
  obtain ⟨n, w, H, c, len, hP⟩ := h
  have hinv : Inv σ := ⟨n, w, H, c, len, hP⟩
  have hC : Cur σ n w := hP.1
  obtain ⟨⟨cw, cn, c17, cr⟩, hH, hI, hT, hS, hWR⟩ := id hP
  have hn := cw.2.1
  have h2n := cw.1
  rcases nodes_cases hn x y with hx | hy | ⟨u, v, hu, hv, rfl, rfl⟩
  · refine ⟨-1, σ, σ, ?_, ?_, hinv⟩
    · unfold f_X6_hitting
      rw [f_hasNode_no (k := 0) cn.1 hx, Option.bind_some, if_pos rfl]
    · unfold f_X7_hitting
      rw [f_isNode_no c17 h2n hn hx, Option.bind_some, if_pos rfl]
  · refine ⟨-1, σ, σ, ?_, ?_, hinv⟩
    · unfold f_X6_hitting
      rcases node_cases hn x with hx | ⟨u, hu, rfl⟩
      · rw [f_hasNode_no (k := 0) cn.1 hx, Option.bind_some, if_pos rfl]
      · rw [f_hasNode_yes (k := 0) cn.1 hn hu, Option.bind_some, if_neg ne10, f_hasNode_no (k := 0) cn.1 hy, Option.bind_some, if_pos rfl]
    · unfold f_X7_hitting
      rcases node_cases hn x with hx | ⟨u, hu, rfl⟩
      · rw [f_isNode_no c17 h2n hn hx, Option.bind_some, if_pos rfl]
      · rw [f_isNode_yes c17 hn hu, Option.bind_some, if_neg ne10, f_isNode_no c17 h2n hn hy, Option.bind_some, if_pos rfl]
  · by_cases hz : z < 0 ∨ 1 < z
    · refine ⟨-1, σ, σ, ?_, ?_, hinv⟩
      · unfold f_X6_hitting
        rw [f_hasNode_yes (k := 0) cn.1 hn hu, Option.bind_some, if_neg ne10, f_hasNode_yes (k := 0) cn.1 hn hv, Option.bind_some, if_neg ne10, isPart_no hz, Option.bind_some, if_pos rfl]
      · unfold f_X7_hitting
        rw [f_isNode_yes c17 hn hu, Option.bind_some, if_neg ne10, f_isNode_yes c17 hn hv, Option.bind_some, if_neg ne10, f_in_im, if_pos hz, Option.bind_some, if_pos rfl]
    · cases hh : tog n (fo (Ln n w)).2
      · obtain ⟨σ1, a1, a2⟩ := hC.hg (l := none) noN
        rw [Lx_none, hh] at a1
        refine ⟨-2, σ, σ1, ?_, ?_, ⟨n, w, H, c, len, hP.sm (FrX.sm a2.x hWR)⟩⟩
        · unfold f_X6_hitting
          rw [f_hasNode_yes (k := 0) cn.1 hn hu, Option.bind_some, if_neg ne10, f_hasNode_yes (k := 0) cn.1 hn hv, Option.bind_some, if_neg ne10, isPart_yes hz, Option.bind_some, if_neg ne10, f_hangs_yes cw cn, Option.bind_some, hh, if_pos bIf]
        · unfold f_X7_hitting
          rw [f_isNode_yes c17 hn hu, Option.bind_some, if_neg ne10, f_isNode_yes c17 hn hv, Option.bind_some, if_neg ne10, f_in_im, if_neg hz, Option.bind_some, if_neg ne10, m9, a1, Option.bind_some, if_pos bIf]
      · have hCC := (tog_iff (by omega) _).mp hh
        obtain ⟨σ1, s1, s2⟩ := f_stepSum_yes (kn := 0) (Or.inl rfl) cw cn hCC hu hv
        have C1 := hC.fx s2.x
        obtain ⟨σ2, t1, t2⟩ := f_treeSum_yes (kn := 0) (Or.inl rfl) cw C1.2.1
        have C2 := C1.fx t2.x
        obtain ⟨σ3, a1, a2⟩ := C2.hg (l := none) noN
        have C3 := C2.fx a2.x
        obtain ⟨σ4, b1, b2⟩ := C3.st (l := none) noN hu hv
        have C4 := C3.fx b2.x
        obtain ⟨σ5, d1, d2⟩ := C4.tr (l := none) noN
        rw [Lx_none, hh] at a1
        rw [Lx_none, ← sT_dg cw] at b1
        rw [Lx_none] at d1
        have hT0 := tree_pos (by omega) LnB LnZ hCC
        have bT := T_bd cw
        have bS := S_bd cw hu hv (d := dg n w) (fun x hx => dg_le cw hx)
        obtain ⟨r, p1, p2⟩ := f_part_both (a := ss (sT n (dg n w) u v) (Ln n w)) (b := ss (tT n) (Ln n w)) (by omega) (by omega) (by omega) z
        refine ⟨r, σ2, σ5, ?_, ?_, ⟨n, w, H, c, len, hP.sm (FrX.sm ((((s2.x.tr t2.x).tr a2.x).tr b2.x).tr d2.x) hWR)⟩⟩
        · unfold f_X6_hitting
          rw [f_hasNode_yes (k := 0) cn.1 hn hu, Option.bind_some, if_neg ne10, f_hasNode_yes (k := 0) cn.1 hn hv, Option.bind_some, if_neg ne10, isPart_yes hz, Option.bind_some, if_neg ne10, f_hangs_yes cw cn, Option.bind_some, hh, if_neg bIt, s1, Option.bind_some, t1, Option.bind_some, p1, Option.bind_some]
        · unfold f_X7_hitting
          rw [f_isNode_yes C2.2.2.1 hn hu, Option.bind_some, if_neg ne10, f_isNode_yes C2.2.2.1 hn hv, Option.bind_some, if_neg ne10, f_in_im, if_neg hz, Option.bind_some, if_neg ne10, m9, a1, Option.bind_some, if_neg bIt, b1, Option.bind_some, d1, Option.bind_some, p2, Option.bind_some]
theorem S_trees {σ : Sg} (h : Inv σ) : ∃ r σ1 σ2, f_X6_trees σ = some (r, σ1) ∧ f_X7_trees σ1 = some (r, σ2) ∧ Inv σ2 := by
  obtain ⟨n, w, H, c, len, hP⟩ := h
  have hC : Cur σ n w := hP.1
  obtain ⟨⟨cw, cn, c17, cr⟩, hH, hI, hT, hS, hWR⟩ := id hP
  obtain ⟨σ1, t1, t2⟩ := f_treeSum_yes (kn := 0) (Or.inl rfl) cw cn
  have C1 := hC.fx t2.x
  obtain ⟨σ2, d1, d2⟩ := C1.tr (l := none) noN
  rw [Lx_none] at d1
  refine ⟨lN (ss (tT n) (Ln n w)), σ1, σ2, ?_, ?_, ⟨n, w, H, c, len, hP.sm (FrX.sm (t2.x.tr d2.x) hWR)⟩⟩
  · unfold f_X6_trees
    rw [t1, Option.bind_some]
  · unfold f_X7_trees
    rw [m9, d1, Option.bind_some]
theorem S_ahead (x y z t : Int32) {σ : Sg} (h : Inv σ) : ∃ r σ1 σ2, f_X6_ahead σ x y z t = some (r, σ1) ∧ f_X7_ahead σ1 x y z t = some (r, σ2) ∧ Inv σ2 := by
  obtain ⟨n, w, H, c, len, hP⟩ := h
  have hinv : Inv σ := ⟨n, w, H, c, len, hP⟩
  have hC : Cur σ n w := hP.1
  obtain ⟨⟨cw, cn, c17, cr⟩, hH, hI, hT, hS, hWR⟩ := id hP
  have hn := cw.2.1
  have h2n := cw.1
  rcases node_cases hn x with hx | ⟨u, hu, rfl⟩
  · refine ⟨-1, σ, σ, ?_, ?_, hinv⟩
    · unfold f_X6_ahead
      rw [f_hasNode_no (k := 0) cn.1 hx, Option.bind_some, if_pos rfl]
    · unfold f_X7_ahead
      rw [f_isNode_no c17 h2n hn hx, Option.bind_some, if_pos rfl]
  · rcases nodes_cases hn y z with hy | hz | ⟨a, b, ha, hb, rfl, rfl⟩
    · refine ⟨-1, σ, σ, ?_, ?_, hinv⟩
      · unfold f_X6_ahead
        rw [f_hasNode_yes (k := 0) cn.1 hn hu, Option.bind_some, if_neg ne10, f_areTwo_no1 cn.1 hy, Option.bind_some, if_pos rfl]
      · unfold f_X7_ahead
        rw [f_isNode_yes c17 hn hu, Option.bind_some, if_neg ne10, f_isNode_no c17 h2n hn hy, Option.bind_some, if_pos rfl]
    · refine ⟨-1, σ, σ, ?_, ?_, hinv⟩
      · unfold f_X6_ahead
        rw [f_hasNode_yes (k := 0) cn.1 hn hu, Option.bind_some, if_neg ne10, f_areTwo_no2 cn.1 hn hz, Option.bind_some, if_pos rfl]
      · unfold f_X7_ahead
        rcases node_cases hn y with hy | ⟨a, ha, rfl⟩
        · rw [f_isNode_yes c17 hn hu, Option.bind_some, if_neg ne10, f_isNode_no c17 h2n hn hy, Option.bind_some, if_pos rfl]
        · rw [f_isNode_yes c17 hn hu, Option.bind_some, if_neg ne10, f_isNode_yes c17 hn ha, Option.bind_some, if_neg ne10, f_isNode_no c17 h2n hn hz, Option.bind_some, if_pos rfl]
    · by_cases hab : a = b
      · subst hab
        refine ⟨-1, σ, σ, ?_, ?_, hinv⟩
        · unfold f_X6_ahead
          rw [f_hasNode_yes (k := 0) cn.1 hn hu, Option.bind_some, if_neg ne10, f_areTwo_yes cn.1 hn ha hb, if_pos rfl, Option.bind_some, if_pos rfl]
        · unfold f_X7_ahead
          rw [f_isNode_yes c17 hn hu, Option.bind_some, if_neg ne10, f_isNode_yes c17 hn ha, Option.bind_some, if_neg ne10, Option.bind_some, if_neg ne10, if_pos rfl]
      · have hne : ¬ nI a = nI b := by rw [nI_eq (by omega) (by omega)]; exact hab
        by_cases ht : t < 0 ∨ 1 < t
        · refine ⟨-1, σ, σ, ?_, ?_, hinv⟩
          · unfold f_X6_ahead
            rw [f_hasNode_yes (k := 0) cn.1 hn hu, Option.bind_some, if_neg ne10, f_areTwo_yes cn.1 hn ha hb, if_neg hab, Option.bind_some, if_neg ne10, isPart_no ht, Option.bind_some, if_pos rfl]
          · unfold f_X7_ahead
            rw [f_isNode_yes c17 hn hu, Option.bind_some, if_neg ne10, f_isNode_yes c17 hn ha, Option.bind_some, if_neg ne10, f_isNode_yes c17 hn hb, Option.bind_some, if_neg ne10, if_neg hne, f_in_im, if_pos ht, Option.bind_some, if_pos rfl]
        · cases hh : tog n (fo (Ln n w)).2
          · obtain ⟨σ1, a1, a2⟩ := hC.hg (l := none) noN
            rw [Lx_none, hh] at a1
            refine ⟨-2, σ, σ1, ?_, ?_, ⟨n, w, H, c, len, hP.sm (FrX.sm a2.x hWR)⟩⟩
            · unfold f_X6_ahead
              rw [f_hasNode_yes (k := 0) cn.1 hn hu, Option.bind_some, if_neg ne10, f_areTwo_yes cn.1 hn ha hb, if_neg hab, Option.bind_some, if_neg ne10, isPart_yes ht, Option.bind_some, if_neg ne10, f_hangs_yes cw cn, Option.bind_some, hh, if_pos bIf]
            · unfold f_X7_ahead
              rw [f_isNode_yes c17 hn hu, Option.bind_some, if_neg ne10, f_isNode_yes c17 hn ha, Option.bind_some, if_neg ne10, f_isNode_yes c17 hn hb, Option.bind_some, if_neg ne10, if_neg hne, f_in_im, if_neg ht, Option.bind_some, if_neg ne10, m9, a1, Option.bind_some, if_pos bIf]
          · have hCC := (tog_iff (by omega) _).mp hh
            obtain ⟨σ1, s1, s2⟩ := f_pullSum_yes (kn := 0) (Or.inl rfl) cw cn hCC hu hb ha
            have C1 := hC.fx s2.x
            obtain ⟨σ2, t1, t2⟩ := f_pullSum_yes (kn := 0) (Or.inl rfl) cw C1.2.1 hCC ha hb ha
            have C2 := C1.fx t2.x
            obtain ⟨σ3, a1, a2⟩ := C2.hg (l := none) noN
            have C3 := C2.fx a2.x
            obtain ⟨σ4, b1, b2⟩ := C3.ap (u := some u) ha hb (fun x q => by cases q; exact hu)
            have C4 := C3.fx b2.x
            obtain ⟨σ5, d1, d2⟩ := C4.ap (u := none) ha hb noN
            rw [Lx_none, hh] at a1
            rw [← sT_un ha, wI_some] at b1
            rw [aT_none, ← sT_un ha] at d1
            have bU : ∀ x, x < n → un a x ≤ 45 := fun x _ => by unfold un; split <;> omega
            have bT := S_bd cw ha hb bU
            have bS := S_bd cw hu hb bU
            have hpos := S_pos h2n ha hb hab LnB LnZ hCC (d := un a) (by unfold un; rw [if_pos rfl]; omega)
            obtain ⟨r, p1, p2⟩ := f_part_both (a := ss (sT n (un a) u b) (Ln n w)) (b := ss (sT n (un a) a b) (Ln n w)) (by omega) (by omega) (by omega) t
            refine ⟨r, σ2, σ5, ?_, ?_, ⟨n, w, H, c, len, hP.sm (FrX.sm ((((s2.x.tr t2.x).tr a2.x).tr b2.x).tr d2.x) hWR)⟩⟩
            · unfold f_X6_ahead
              rw [f_hasNode_yes (k := 0) cn.1 hn hu, Option.bind_some, if_neg ne10, f_areTwo_yes cn.1 hn ha hb, if_neg hab, Option.bind_some, if_neg ne10, isPart_yes ht, Option.bind_some, if_neg ne10, f_hangs_yes cw cn, Option.bind_some, hh, if_neg bIt, s1, Option.bind_some, t1, Option.bind_some, p1, Option.bind_some]
            · unfold f_X7_ahead
              rw [f_isNode_yes C2.2.2.1 hn hu, Option.bind_some, if_neg ne10, f_isNode_yes C2.2.2.1 hn ha, Option.bind_some, if_neg ne10, f_isNode_yes C2.2.2.1 hn hb, Option.bind_some, if_neg ne10, if_neg hne, f_in_im, if_neg ht, Option.bind_some, if_neg ne10, m9, a1, Option.bind_some, if_neg bIt, b1, Option.bind_some, d1, Option.bind_some, p2, Option.bind_some]
theorem whl_le {L : List (Nat × Nat × Nat)} (h : ∀ e ∈ L, e.2.2 ≤ 9) : whl L ≤ 9 * L.length := by
  induction L with
  | nil => exact Nat.le_refl _
  | cons e L ih =>
    have h1 := h e List.mem_cons_self
    have h2 := ih (fun f hf => h f (List.mem_cons_of_mem _ hf))
    unfold whl at h2 ⊢
    rw [List.map_cons, List.sum_cons, List.length_cons]
    omega
theorem le_whl : ∀ {L : List (Nat × Nat × Nat)} {e : Nat × Nat × Nat}, e ∈ L → e.2.2 ≤ whl L
  | [], _, h => absurd h List.not_mem_nil
  | a :: L, e, h => by
    have e0 : whl (a :: L) = a.2.2 + whl L := by
      unfold whl
      rw [List.map_cons, List.sum_cons]
    rcases List.mem_cons.mp h with rfl | h
    · omega
    · have := le_whl h
      omega
theorem S_between (x y k z : Int32) {σ : Sg} (h : Inv σ) : ∃ r σ1 σ2, f_X6_between σ x y k z = some (r, σ1) ∧ f_X7_between σ1 x y k z = some (r, σ2) ∧ Inv σ2 := by
  obtain ⟨n, w, H, c, len, hP⟩ := h
  have hinv : Inv σ := ⟨n, w, H, c, len, hP⟩
  have hC : Cur σ n w := hP.1
  obtain ⟨⟨cw, cn, c17, cr⟩, hH, hI, hT, hS, hWR⟩ := id hP
  have hn := cw.2.1
  have h2n := cw.1
  rcases nodes_cases hn x y with hx | hy | ⟨u, v, hu, hv, rfl, rfl⟩
  · refine ⟨-1, σ, σ, ?_, ?_, hinv⟩
    · unfold f_X6_between
      rw [f_hasNode_no (k := 0) cn.1 hx, Option.bind_some, if_pos rfl]
    · unfold f_X7_between
      rw [f_isNode_no c17 h2n hn hx, Option.bind_some, if_pos rfl]
  · refine ⟨-1, σ, σ, ?_, ?_, hinv⟩
    · unfold f_X6_between
      rcases node_cases hn x with hx | ⟨u, hu, rfl⟩
      · rw [f_hasNode_no (k := 0) cn.1 hx, Option.bind_some, if_pos rfl]
      · rw [f_hasNode_yes (k := 0) cn.1 hn hu, Option.bind_some, if_neg ne10, f_hasNode_no (k := 0) cn.1 hy, Option.bind_some, if_pos rfl]
    · unfold f_X7_between
      rcases node_cases hn x with hx | ⟨u, hu, rfl⟩
      · rw [f_isNode_no c17 h2n hn hx, Option.bind_some, if_pos rfl]
      · rw [f_isNode_yes c17 hn hu, Option.bind_some, if_neg ne10, f_isNode_no c17 h2n hn hy, Option.bind_some, if_pos rfl]
  · by_cases hk : k < 0 ∨ 1 < k
    · refine ⟨-1, σ, σ, ?_, ?_, hinv⟩
      · unfold f_X6_between
        rw [f_hasNode_yes (k := 0) cn.1 hn hu, Option.bind_some, if_neg ne10, f_hasNode_yes (k := 0) cn.1 hn hv, Option.bind_some, if_neg ne10]
        by_cases q : k < 0
        · rw [if_pos q]
        · rw [if_neg q, if_pos (hk.resolve_left q)]
      · unfold f_X7_between
        rw [f_isNode_yes c17 hn hu, Option.bind_some, if_neg ne10, f_isNode_yes c17 hn hv, Option.bind_some, if_neg ne10, f_in_im, if_pos hk, Option.bind_some, if_pos rfl]
    · have k1 : ¬ k < 0 := fun q => hk (Or.inl q)
      have k2 : ¬ 1 < k := fun q => hk (Or.inr q)
      by_cases hz : z < 0 ∨ 1 < z
      · refine ⟨-1, σ, σ, ?_, ?_, hinv⟩
        · unfold f_X6_between
          rw [f_hasNode_yes (k := 0) cn.1 hn hu, Option.bind_some, if_neg ne10, f_hasNode_yes (k := 0) cn.1 hn hv, Option.bind_some, if_neg ne10, if_neg k1, if_neg k2, isPart_no hz, Option.bind_some, if_pos rfl]
        · unfold f_X7_between
          rw [f_isNode_yes c17 hn hu, Option.bind_some, if_neg ne10, f_isNode_yes c17 hn hv, Option.bind_some, if_neg ne10, f_in_im, if_neg hk, Option.bind_some, if_neg ne10, f_in_im, if_pos hz, Option.bind_some, if_pos rfl]
      · cases hh : tog n (fo (Ln n w)).2
        · obtain ⟨σ1, a1, a2⟩ := hC.hg (l := none) noN
          rw [Lx_none, hh] at a1
          refine ⟨-2, σ, σ1, ?_, ?_, ⟨n, w, H, c, len, hP.sm (FrX.sm a2.x hWR)⟩⟩
          · unfold f_X6_between
            rw [f_hasNode_yes (k := 0) cn.1 hn hu, Option.bind_some, if_neg ne10, f_hasNode_yes (k := 0) cn.1 hn hv, Option.bind_some, if_neg ne10, if_neg k1, if_neg k2, isPart_yes hz, Option.bind_some, if_neg ne10, f_hangs_yes cw cn, Option.bind_some, hh, if_pos bIf]
          · unfold f_X7_between
            rw [f_isNode_yes c17 hn hu, Option.bind_some, if_neg ne10, f_isNode_yes c17 hn hv, Option.bind_some, if_neg ne10, f_in_im, if_neg hk, Option.bind_some, if_neg ne10, f_in_im, if_neg hz, Option.bind_some, if_neg ne10, m9, a1, Option.bind_some, if_pos bIf]
        · have hCC := (tog_iff (by omega) _).mp hh
          obtain ⟨σ1, s1, s2⟩ := f_stepSum_yes (kn := 0) (Or.inl rfl) cw cn hCC hu hv
          have C1 := hC.fx s2.x
          obtain ⟨σ1b, s3, s4⟩ := f_stepSum_yes (kn := 0) (Or.inl rfl) cw C1.2.1 hCC hv hu
          have C1b := C1.fx s4.x
          obtain ⟨σ2, t1, t2⟩ := f_treeSum_yes (kn := 0) (Or.inl rfl) cw C1b.2.1
          have C2 := C1b.fx t2.x
          obtain ⟨σ3, a1, a2⟩ := C2.hg (l := none) noN
          have C3 := C2.fx a2.x
          obtain ⟨σ4, b1, b2⟩ := C3.st (l := none) noN hu hv
          have C4 := C3.fx b2.x
          obtain ⟨σ4b, b3, b4⟩ := C4.st (l := none) noN hv hu
          have C4b := C4.fx b4.x
          obtain ⟨σ5, d1, d2⟩ := C4b.tr (l := none) noN
          have C5 := C4b.fx d2.x
          rw [Lx_none, hh] at a1
          rw [Lx_none, ← sT_dg cw] at b1 b3
          rw [Lx_none] at d1
          have hT0 := tree_pos (by omega) LnB LnZ hCC
          have bT := T_bd cw
          have bS := S_bd cw hu hv (d := dg n w) (fun x hx => dg_le cw hx)
          have bS2 := S_bd cw hv hu (d := dg n w) (fun x hx => dg_le cw hx)
          have hW := whl_le (L_b9 cw)
          have hL := cw.2.2.2.2.2
          have hfin : Inv σ5 := ⟨n, w, H, c, len, hP.sm (FrX.sm ((((((s2.x.tr s4.x).tr t2.x).tr a2.x).tr b2.x).tr b4.x).tr d2.x) hWR)⟩
          rcases image_cases k with q | rfl | rfl
          · exact absurd q hk
          · obtain ⟨r, p1, p2⟩ := f_part_both (a := ss (sT n (dg n w) u v) (Ln n w) + ss (sT n (dg n w) v u) (Ln n w)) (b := ss (tT n) (Ln n w)) (by omega) (by omega) (by omega) z
            refine ⟨r, σ2, σ5, ?_, ?_, hfin⟩
            · unfold f_X6_between f_X6_between_J125
              rw [f_hasNode_yes (k := 0) cn.1 hn hu, Option.bind_some, if_neg ne10, f_hasNode_yes (k := 0) cn.1 hn hv, Option.bind_some, if_neg ne10, if_neg k1, if_neg k2, isPart_yes hz, Option.bind_some, if_neg ne10, f_hangs_yes cw cn, Option.bind_some, hh, if_neg bIt, s1, Option.bind_some, s3, Option.bind_some, vl_e, t1, Option.bind_some, if_pos (show nI 0 = 0 from rfl)]
              dsimp only
              rw [lN_add, p1, Option.bind_some]
            · unfold f_X7_between f_X7_between_J102
              rw [f_isNode_yes C2.2.2.1 hn hu, Option.bind_some, if_neg ne10, f_isNode_yes C2.2.2.1 hn hv, Option.bind_some, if_neg ne10, f_in_im, if_neg hk, Option.bind_some, if_neg ne10, f_in_im, if_neg hz, Option.bind_some, if_neg ne10, m9, a1, Option.bind_some, if_neg bIt, b1, Option.bind_some, b3, Option.bind_some, vl_e, d1, Option.bind_some, if_pos (show nI 0 = 0 from rfl)]
              dsimp only
              rw [lN_add, p2, Option.bind_some]
          · have hWp : 0 < whl (Ln n w) := by
              refine Nat.pos_of_ne_zero fun q => ?_
              have h0 : Ln n w = [] := by
                rw [List.eq_nil_iff_forall_not_mem]
                intro e he
                have hz0 := LnZ e he
                have : e.2.2 ≤ whl (Ln n w) := le_whl he
                omega
              have := hCC (fun x => decide (x = 0)) (fun e he => by rw [h0] at he; cases he) 0 1 (by omega) (by omega)
              cases this
            have e1 : lN (ss (tT n) (Ln n w)) * (2 : Int64) * (nI (whl (Ln n w))).toInt64 = lN (ss (tT n) (Ln n w) * 2 * whl (Ln n w)) := by
              rw [nI_64 (by omega), jl_2, lN_mul, lN_mul]
            have e2 : ((2 : Int32) * nI (whl (Ln n w))).toInt64 * lN (ss (tT n) (Ln n w)) = lN (ss (tT n) (Ln n w) * 2 * whl (Ln n w)) := by
              rw [il_2, pk_mul, nI_64 (by omega), lN_mul]
              congr 1
              rw [Nat.mul_comm, Nat.mul_assoc]
            have bP : ss (tT n) (Ln n w) * 2 * whl (Ln n w) ≤ 22143375000 * 2 * 90 := Nat.mul_le_mul (Nat.mul_le_mul bT (Nat.le_refl _)) (by omega)
            have bQ : 0 < ss (tT n) (Ln n w) * 2 * whl (Ln n w) := Nat.mul_pos (Nat.mul_pos (by omega) (by omega)) hWp
            obtain ⟨r, p1, p2⟩ := f_part_both (a := ss (sT n (dg n w) u v) (Ln n w) + ss (sT n (dg n w) v u) (Ln n w)) (b := ss (tT n) (Ln n w) * 2 * whl (Ln n w)) (by omega) (by omega) bQ z
            refine ⟨r, σ2, σ5, ?_, ?_, hfin⟩
            · unfold f_X6_between f_X6_between_J125
              rw [f_hasNode_yes (k := 0) cn.1 hn hu, Option.bind_some, if_neg ne10, f_hasNode_yes (k := 0) cn.1 hn hv, Option.bind_some, if_neg ne10, if_neg k1, if_neg k2, isPart_yes hz, Option.bind_some, if_neg ne10, f_hangs_yes cw cn, Option.bind_some, hh, if_neg bIt, s1, Option.bind_some, s3, Option.bind_some, vl_e, t1, Option.bind_some, if_neg (show ¬ nI 1 = 0 by decide)]
              dsimp only
              rw [f_whole_yes C2.2.1 cw, Option.bind_some, lN_add, e1, p1, Option.bind_some]
            · unfold f_X7_between f_X7_between_J102
              rw [f_isNode_yes C2.2.2.1 hn hu, Option.bind_some, if_neg ne10, f_isNode_yes C2.2.2.1 hn hv, Option.bind_some, if_neg ne10, f_in_im, if_neg hk, Option.bind_some, if_neg ne10, f_in_im, if_neg hz, Option.bind_some, if_neg ne10, m9, a1, Option.bind_some, if_neg bIt, b1, Option.bind_some, b3, Option.bind_some, vl_e, d1, Option.bind_some, if_neg (show ¬ nI 1 = 0 by decide)]
              dsimp only
              rw [f_mwhole_yes C5.2.2.2 hL, Option.bind_some, lN_add, e2, p2, Option.bind_some]
