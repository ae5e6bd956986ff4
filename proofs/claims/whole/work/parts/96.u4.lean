/-! worst -/
/-- where both loops stand after i lines: found, most upper, most lower -/
def wst (n : Nat) (w : Nat → Nat → Nat) (u v : Nat) : Nat → Int32 × Int64 × Int64
  | 0 => (-9, 0, 1)
  | i + 1 => if tog n (fo ((Ln n w).eraseIdx i)).2 = true then
      (if lN (ss (sT n (dgL ((Ln n w).eraseIdx i)) u v) ((Ln n w).eraseIdx i)) * (wst n w u v i).2.2 ≤ (wst n w u v i).2.1 * lN (ss (tT n) ((Ln n w).eraseIdx i)) then wst n w u v i
       else (nI i, lN (ss (sT n (dgL ((Ln n w).eraseIdx i)) u v) ((Ln n w).eraseIdx i)), lN (ss (tT n) ((Ln n w).eraseIdx i))))
    else wst n w u v i
theorem wst_9 {n : Nat} {w : Nat → Nat → Nat} {u v : Nat} : ∀ i, i < 2 ^ 31 → (wst n w u v i).1 = -9 → wst n w u v i = (-9, 0, 1)
  | 0, _, _ => rfl
  | i + 1, hi, h => by
    unfold wst at h ⊢
    split
    · rename_i c
      rw [if_pos c] at h
      split
      · rename_i c2
        rw [if_pos c2] at h
        exact wst_9 i (by omega) h
      · rename_i c2
        rw [if_neg c2] at h
        exact absurd h (nI_m9 (by omega))
    · rename_i c
      rw [if_neg c] at h
      exact wst_9 i (by omega) h
theorem S_worst (x y : Int32) {σ : Sg} (h : Inv σ) : ∃ r σ1 σ2, f_X6_worst σ x y = some (r, σ1) ∧ f_X7_worst σ1 x y = some (r, σ2) ∧ Inv σ2 := by
  obtain ⟨n, w, H, c, len, hP⟩ := h
  have hinv : Inv σ := ⟨n, w, H, c, len, hP⟩
  have hC : Cur σ n w := hP.1
  obtain ⟨⟨cw, cn, c17, cr⟩, hH, hI, hT, hS, hWR⟩ := id hP
  have hn := cw.2.1
  have h2n := cw.1
  have hl := cw.2.2.2.2.2
  rcases nodes_cases hn x y with hx | hy | ⟨u, v, hu, hv, rfl, rfl⟩
  · refine ⟨-1, σ, σ, ?_, ?_, hinv⟩
    · unfold f_X6_worst
      rw [f_areTwo_no1 cn.1 hx, Option.bind_some, if_pos rfl]
    · unfold f_X7_worst
      rw [f_isNode_no c17 h2n hn hx, Option.bind_some, if_pos rfl]
  · refine ⟨-1, σ, σ, ?_, ?_, hinv⟩
    · unfold f_X6_worst
      rw [f_areTwo_no2 cn.1 hn hy, Option.bind_some, if_pos rfl]
    · unfold f_X7_worst
      rcases node_cases hn x with hx | ⟨u, hu, rfl⟩
      · rw [f_isNode_no c17 h2n hn hx, Option.bind_some, if_pos rfl]
      · rw [f_isNode_yes c17 hn hu, Option.bind_some, if_neg ne10, f_isNode_no c17 h2n hn hy, Option.bind_some, if_pos rfl]
  · by_cases huv : u = v
    · subst huv
      refine ⟨-1, σ, σ, ?_, ?_, hinv⟩
      · unfold f_X6_worst
        rw [f_areTwo_yes cn.1 hn hu hv, if_pos rfl, Option.bind_some, if_pos rfl]
      · unfold f_X7_worst
        rw [f_isNode_yes c17 hn hu, Option.bind_some, if_neg ne10, Option.bind_some, if_neg ne10, if_pos rfl]
    · have hne : ¬ nI u = nI v := by rw [nI_eq (by omega) (by omega)]; exact huv
      cases hh : tog n (fo (Ln n w)).2
      · obtain ⟨σ1, a1, a2⟩ := hC.hg (l := none) noN
        rw [Lx_none, hh] at a1
        refine ⟨-2, σ, σ1, ?_, ?_, ⟨n, w, H, c, len, hP.sm (FrX.sm a2.x hWR)⟩⟩
        · unfold f_X6_worst
          rw [f_areTwo_yes cn.1 hn hu hv, if_neg huv, Option.bind_some, if_neg ne10, f_hangs_yes cw cn, Option.bind_some, hh, if_pos bIf]
        · unfold f_X7_worst
          rw [f_isNode_yes c17 hn hu, Option.bind_some, if_neg ne10, f_isNode_yes c17 hn hv, Option.bind_some, if_neg ne10, if_neg hne, m9, a1, Option.bind_some, if_pos bIf]
      · have key1 := wl_inv (body := fun a : Int32 × Int64 × Int64 × Int32 × Sg => f_X6_worst_B36 (nI u) (nI v) a.1 a.2.1 a.2.2.1 a.2.2.2.1 a.2.2.2.2) (N := (Ln n w).length) (I := fun i (a : Int32 × Int64 × Int64 × Int32 × Sg) => ∃ σ1, a = ((wst n w u v i).1, (wst n w u v i).2.1, (wst n w u v i).2.2, nI i, σ1) ∧ FrL σ σ1) (Post := fun b : Int32 × Sg => b.1 = (wst n w u v (Ln n w).length).1 ∧ FrL σ b.2) (fun i a hi hI => ?_) FU 0 ((-9 : Int32), (0 : Int64), (1 : Int64), (0 : Int32), σ) ⟨σ, rfl, Fr.rf⟩ (Nat.zero_le _) (FU_big (by omega))
        · obtain ⟨⟨r, σ1⟩, k1, k2, k3⟩ := key1
          dsimp only at k2 k3
          subst k2
          have C1 := hC.fy k3.y
          obtain ⟨σ2, a1, a2⟩ := C1.hg (l := none) noN
          rw [Lx_none, hh] at a1
          have C2 := C1.fx a2.x
          have key2 := wl_inv (body := fun a : Int32 × Int64 × Int64 × Int32 × Sg => f_X7_worst_B47 (nI u) (nI v) a.1 a.2.1 a.2.2.1 a.2.2.2.1 a.2.2.2.2) (N := (Ln n w).length) (I := fun i (a : Int32 × Int64 × Int64 × Int32 × Sg) => ∃ σ3, a = ((wst n w u v i).1, (wst n w u v i).2.1, (wst n w u v i).2.2, nI i, σ3) ∧ Fr51 σ2 σ3) (Post := fun b : Int32 × Sg => b.1 = (wst n w u v (Ln n w).length).1 ∧ Fr51 σ2 b.2) (fun i a hi hI => ?_) FU 0 ((-9 : Int32), (0 : Int64), (1 : Int64), (0 : Int32), σ2) ⟨σ2, rfl, Fr.rf⟩ (Nat.zero_le _) (FU_big (by omega))
          · obtain ⟨⟨r2, σ3⟩, m1, m2, m3⟩ := key2
            dsimp only at m2 m3
            subst m2
            refine ⟨(wst n w u v (Ln n w).length).1, σ1, σ3, ?_, ?_, ⟨n, w, H, c, len, hP.sm (FrY.sm ((k3.y.tr a2.x.y).tr m3.x.y) hWR)⟩⟩
            · unfold f_X6_worst
              rw [f_areTwo_yes cn.1 hn hu hv, if_neg huv, Option.bind_some, if_neg ne10, f_hangs_yes cw cn, Option.bind_some, hh, if_neg bIt, k1, Option.bind_some]
            · unfold f_X7_worst
              rw [f_isNode_yes C1.2.2.1 hn hu, Option.bind_some, if_neg ne10, f_isNode_yes C1.2.2.1 hn hv, Option.bind_some, if_neg ne10, if_neg hne, show f_X7_hangs σ1 (-9 : Int32) = _ from a1, Option.bind_some, if_neg bIt, m1, Option.bind_some]
          · obtain ⟨σ3, rfl, hF⟩ := hI
            dsimp only
            have C3 := C2.fx hF.x
            by_cases he : i = (Ln n w).length
            · subst he
              refine ⟨.inr ((wst n w u v (Ln n w).length).1, σ3), ?_, Or.inr ⟨_, rfl, rfl, hF⟩⟩
              unfold f_X7_worst_B47
              rw [f_lines_yes C3.2.2.2, Option.bind_some, if_pos (nI_le (Nat.le_refl _) (by omega))]
            · have hlt : i < (Ln n w).length := by omega
              obtain ⟨σ4, b1, b2⟩ := C3.hg (l := some i) (soN hlt)
              have C4 := C3.fx b2.x
              obtain ⟨σ5, d1, d2⟩ := C4.st (l := some i) (soN hlt) hu hv
              have C5 := C4.fx d2.x
              obtain ⟨σ6, e1, e2⟩ := C5.tr (l := some i) (soN hlt)
              have eL : Lx (Ln n w) (some i) = (Ln n w).eraseIdx i := rfl
              rw [eL] at b1 d1 e1
              rw [wI_some] at b1 d1 e1
              have hw9 : (wst n w u v i).1 = -9 → wst n w u v i = (-9, 0, 1) := wst_9 i (by omega)
              cases q : tog n (fo ((Ln n w).eraseIdx i)).2
              · rw [q] at b1
                have es : wst n w u v (i + 1) = wst n w u v i := by
                  conv => lhs; unfold wst
                  rw [q, if_neg (by decide)]
                refine ⟨.inl ((wst n w u v i).1, (wst n w u v i).2.1, (wst n w u v i).2.2, nI (i + 1), σ4), ?_, Or.inl ⟨_, rfl, hlt, σ4, by rw [es], hF.tr b2⟩⟩
                unfold f_X7_worst_B47
                rw [f_lines_yes C3.2.2.2, Option.bind_some, if_neg (nI_ge hlt (by omega)), b1, Option.bind_some, if_pos bIf, vl_e, nI_1]
              · rw [q] at b1
                have hCe := (tog_iff (by omega) _).mp q
                have hsub : ∀ e ∈ (Ln n w).eraseIdx i, e ∈ Ln n w := fun e he => (List.eraseIdx_sublist _ _).subset he
                have es : wst n w u v (i + 1) = if lN (ss (sT n (dgL ((Ln n w).eraseIdx i)) u v) ((Ln n w).eraseIdx i)) * (wst n w u v i).2.2 ≤ (wst n w u v i).2.1 * lN (ss (tT n) ((Ln n w).eraseIdx i)) then wst n w u v i else (nI i, lN (ss (sT n (dgL ((Ln n w).eraseIdx i)) u v) ((Ln n w).eraseIdx i)), lN (ss (tT n) ((Ln n w).eraseIdx i))) := by
                  conv => lhs; unfold wst
                  rw [q, if_pos rfl]
                by_cases cle : lN (ss (sT n (dgL ((Ln n w).eraseIdx i)) u v) ((Ln n w).eraseIdx i)) * (wst n w u v i).2.2 ≤ (wst n w u v i).2.1 * lN (ss (tT n) ((Ln n w).eraseIdx i))
                · rw [if_pos cle] at es
                  have hn9 : ¬ (wst n w u v i).1 = -9 := fun r => by
                    have e9 := hw9 r
                    rw [e9] at cle
                    dsimp only at cle
                    obtain ⟨e', he'⟩ : ∃ e', (Ln n w)[i]? = some e' := ⟨_, List.getElem?_eq_getElem hlt⟩
                    have hm' := mem_Ln.mp (List.mem_of_getElem? he')
                    have hcut := Ln_cut cw he'
                    have hl2 : ((Ln n w).eraseIdx i).length = (Ln n w).length - 1 := by rw [List.length_eraseIdx, if_pos hlt]
                    have hw' : wok n (w2 w e'.1 e'.2.1 0) := w2_wok cw (by omega) (by omega) (by rw [hcut, hl2]; omega)
                    rw [← hcut] at cle hCe
                    rw [← sT_dg hw'] at cle
                    have bS := S_bd hw' hu hv (d := dg n (w2 w e'.1 e'.2.1 0)) (fun x hx => dg_le hw' hx)
                    have pS := S_pos h2n hu hv huv LnB LnZ hCe (d := dg n (w2 w e'.1 e'.2.1 0)) (dg_pos hw' hu hCe)
                    rw [jl_1, jl_0, lN_mul, lN_mul, Nat.mul_one, Nat.zero_mul, lN_l (by omega) (by omega)] at cle
                    omega
                  refine ⟨.inl ((wst n w u v i).1, (wst n w u v i).2.1, (wst n w u v i).2.2, nI (i + 1), σ6), ?_, Or.inl ⟨_, rfl, hlt, σ6, by rw [es], ((hF.tr b2).tr d2).tr e2⟩⟩
                  unfold f_X7_worst_B47
                  rw [f_lines_yes C3.2.2.2, Option.bind_some, if_neg (nI_ge hlt (by omega)), b1, Option.bind_some, if_neg bIt, d1, Option.bind_some, e1, Option.bind_some, if_neg hn9]
                  dsimp only
                  rw [if_pos cle, vl_e, nI_1]
                · rw [if_neg cle] at es
                  refine ⟨.inl (nI i, lN (ss (sT n (dgL ((Ln n w).eraseIdx i)) u v) ((Ln n w).eraseIdx i)), lN (ss (tT n) ((Ln n w).eraseIdx i)), nI (i + 1), σ6), ?_, Or.inl ⟨_, rfl, hlt, σ6, by rw [es], ((hF.tr b2).tr d2).tr e2⟩⟩
                  unfold f_X7_worst_B47
                  rw [f_lines_yes C3.2.2.2, Option.bind_some, if_neg (nI_ge hlt (by omega)), b1, Option.bind_some, if_neg bIt, d1, Option.bind_some, e1, Option.bind_some]
                  dsimp only
                  unfold f_X7_worst_J103
                  rw [if_neg cle, vl_e, nI_1]
                  split <;> rfl
        · obtain ⟨σ1, rfl, hF⟩ := hI
          dsimp only
          have C1 := hC.fy hF.y
          have h5 : gI σ1 5 = nI (Ln n w).length := C1.2.1.2.1
          by_cases he : i = (Ln n w).length
          · subst he
            refine ⟨.inr ((wst n w u v (Ln n w).length).1, σ1), ?_, Or.inr ⟨_, rfl, rfl, hF⟩⟩
            unfold f_X6_worst_B36
            rw [h5, if_pos (nI_le (Nat.le_refl _) (by omega))]
          · have hlt : i < (Ln n w).length := by omega
            obtain ⟨σ2, w', a1, a2, a3, a4, a5⟩ := f_leaveOut_yes C1 hlt
            have hg := f_hangs_yes a3 a4
            rw [a5] at hg
            cases q : tog n (fo ((Ln n w).eraseIdx i)).2
            · rw [q] at hg
              have es : wst n w u v (i + 1) = wst n w u v i := by
                conv => lhs; unfold wst
                rw [q, if_neg (by decide)]
              refine ⟨.inl ((wst n w u v i).1, (wst n w u v i).2.1, (wst n w u v i).2.2, nI (i + 1), σ2), ?_, Or.inl ⟨_, rfl, hlt, σ2, by rw [es], hF.tr a2⟩⟩
              unfold f_X6_worst_B36
              rw [h5, if_neg (nI_ge hlt (by omega)), a1, Option.bind_some, hg, Option.bind_some, if_pos bIf, vl_e, nI_1]
            · rw [q] at hg
              have hCe := (tog_iff (by omega) _).mp q
              rw [← a5] at hCe
              obtain ⟨σ3, d1, d2⟩ := f_stepSum_yes (kn := 2) (Or.inr rfl) a3 a4 hCe hu hv
              obtain ⟨σ4, e1, e2⟩ := f_treeSum_yes (kn := 2) (Or.inr rfl) a3 (netK (Or.inr rfl) d2 a4)
              rw [sT_dg a3, a5] at d1
              rw [a5] at e1
              have es : wst n w u v (i + 1) = if lN (ss (sT n (dgL ((Ln n w).eraseIdx i)) u v) ((Ln n w).eraseIdx i)) * (wst n w u v i).2.2 ≤ (wst n w u v i).2.1 * lN (ss (tT n) ((Ln n w).eraseIdx i)) then wst n w u v i else (nI i, lN (ss (sT n (dgL ((Ln n w).eraseIdx i)) u v) ((Ln n w).eraseIdx i)), lN (ss (tT n) ((Ln n w).eraseIdx i))) := by
                conv => lhs; unfold wst
                rw [q, if_pos rfl]
              have f4 : FrL σ σ4 := ((hF.tr a2).tr d2.l).tr e2.l
              by_cases cle : lN (ss (sT n (dgL ((Ln n w).eraseIdx i)) u v) ((Ln n w).eraseIdx i)) * (wst n w u v i).2.2 ≤ (wst n w u v i).2.1 * lN (ss (tT n) ((Ln n w).eraseIdx i))
              · rw [if_pos cle] at es
                refine ⟨.inl ((wst n w u v i).1, (wst n w u v i).2.1, (wst n w u v i).2.2, nI (i + 1), σ4), ?_, Or.inl ⟨_, rfl, hlt, σ4, by rw [es], f4⟩⟩
                unfold f_X6_worst_B36
                rw [h5, if_neg (nI_ge hlt (by omega)), a1, Option.bind_some, hg, Option.bind_some, if_neg bIt, d1, Option.bind_some, e1, Option.bind_some]
                dsimp only
                rw [if_pos cle, vl_e, nI_1]
              · rw [if_neg cle] at es
                refine ⟨.inl (nI i, lN (ss (sT n (dgL ((Ln n w).eraseIdx i)) u v) ((Ln n w).eraseIdx i)), lN (ss (tT n) ((Ln n w).eraseIdx i)), nI (i + 1), σ4), ?_, Or.inl ⟨_, rfl, hlt, σ4, by rw [es], f4⟩⟩
                unfold f_X6_worst_B36
                rw [h5, if_neg (nI_ge hlt (by omega)), a1, Option.bind_some, hg, Option.bind_some, if_neg bIt, d1, Option.bind_some, e1, Option.bind_some]
                dsimp only
                rw [if_neg cle, vl_e, nI_1]
