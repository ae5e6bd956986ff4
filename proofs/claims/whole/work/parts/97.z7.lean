/-! reduced: both answer the same -/
abbrev FrZ (σ σ' : Sg) : Prop := Fr [16] [51] [40, 41, 54, 55] σ σ'
theorem S_reduced (x y z : Int32) {σ : Sg} (h : Inv σ) : ∃ r σ1 σ2, f_X6_reduced σ x y z = some (r, σ1) ∧ f_X7_reduced σ1 x y z = some (r, σ2) ∧ Inv σ2 := by
  obtain ⟨n, w, H, c, len, hP⟩ := h
  have hinv : Inv σ := ⟨n, w, H, c, len, hP⟩
  have hC : Cur σ n w := hP.1
  obtain ⟨⟨cw, cn, c17, cr⟩, hH, hI, hT, hS, hWR⟩ := id hP
  have hn := cw.2.1
  have h2n := cw.1
  rcases nodes_cases hn x y with hx | hy | ⟨u, v, hu, hv, rfl, rfl⟩
  · refine ⟨-1, σ, σ, ?_, ?_, hinv⟩
    · unfold f_X6_reduced
      rw [f_areTwo_no1 cn.1 hx, Option.bind_some, if_pos rfl]
    · unfold f_X7_reduced
      rw [f_isNode_no c17 h2n hn hx, Option.bind_some, if_pos rfl]
  · refine ⟨-1, σ, σ, ?_, ?_, hinv⟩
    · unfold f_X6_reduced
      rw [f_areTwo_no2 cn.1 hn hy, Option.bind_some, if_pos rfl]
    · unfold f_X7_reduced
      rcases node_cases hn x with hx | ⟨u, hu, rfl⟩
      · rw [f_isNode_no c17 h2n hn hx, Option.bind_some, if_pos rfl]
      · rw [f_isNode_yes c17 hn hu, Option.bind_some, if_neg ne10, f_isNode_no c17 h2n hn hy, Option.bind_some, if_pos rfl]
  · by_cases huv : u = v
    · subst huv
      refine ⟨-1, σ, σ, ?_, ?_, hinv⟩
      · unfold f_X6_reduced
        rw [f_areTwo_yes cn.1 hn hu hv, if_pos rfl, Option.bind_some, if_pos rfl]
      · unfold f_X7_reduced
        rw [f_isNode_yes c17 hn hu, Option.bind_some, if_neg ne10, Option.bind_some, if_neg ne10, if_pos rfl]
    · have hne : ¬ nI u = nI v := by rw [nI_eq (by omega) (by omega)]; exact huv
      by_cases hz : z < 0 ∨ 2 < z
      · refine ⟨-1, σ, σ, ?_, ?_, hinv⟩
        · unfold f_X6_reduced
          rw [f_areTwo_yes cn.1 hn hu hv, if_neg huv, Option.bind_some, if_neg ne10]
          by_cases q : z < 0
          · rw [if_pos q]
          · rw [if_neg q, if_neg (Int32.not_le.mpr (hz.resolve_left q))]
        · unfold f_X7_reduced
          rw [f_isNode_yes c17 hn hu, Option.bind_some, if_neg ne10, f_isNode_yes c17 hn hv, Option.bind_some, if_neg ne10, if_neg hne, f_in_02, if_pos hz, Option.bind_some, if_pos rfl]
      · have z0 : ¬ z < 0 := fun q => hz (Or.inl q)
        have z2 : z ≤ 2 := Int32.not_lt.mp (fun q => hz (Or.inr q))
        cases hh : tog n (fo (Ln n w)).2
        · obtain ⟨σ1, a1, a2⟩ := hC.hg (l := none) noN
          rw [Lx_none, hh] at a1
          refine ⟨-2, σ, σ1, ?_, ?_, ⟨n, w, H, c, len, hP.sm (FrX.sm a2.x hWR)⟩⟩
          · unfold f_X6_reduced
            rw [f_areTwo_yes cn.1 hn hu hv, if_neg huv, Option.bind_some, if_neg ne10, if_neg z0, if_pos z2, f_hangs_yes cw cn, Option.bind_some, hh, if_pos bIf]
          · unfold f_X7_reduced
            rw [f_isNode_yes c17 hn hu, Option.bind_some, if_neg ne10, f_isNode_yes c17 hn hv, Option.bind_some, if_neg ne10, if_neg hne, f_in_02, if_neg hz, Option.bind_some, if_neg ne10, m9, a1, Option.bind_some, if_pos bIf]
        · have hCC := (tog_iff (by omega) _).mp hh
          obtain ⟨σ1, a1, a2, a3, a4⟩ := f_reduces_yes cw cn hu hv
          have F1 : FrZ σ σ1 := Fr.mono a2 (by simp) (by simp) (by simp)
          have P1 := hP.sm (Fr.sm F1 hWR (by decide) (by decide) (by decide))
          have C1 : Cur σ1 n w := P1.1
          obtain ⟨σ2, b1, b2⟩ := C1.hg (l := none) noN
          rw [Lx_none, hh] at b1
          have C2 := C1.fx b2.x
          obtain ⟨σ3, d1, d2, d3⟩ := r_zero C2.2.2.1
          obtain ⟨σ4, e1, e2, e3⟩ := r_load (FrQ.cur C2 d2) d3
          obtain ⟨σ5, g1, g2, g3⟩ := r_run (s0 := (fun _ _ => 1, wn n w, K0 n w)) hn hu hv e3 (Iv_0 cw)
          have hO : Out n (run n u v n (fun _ _ => 1, wn n w, K0 n w)).2.1 := Out_run n _ (fun a b q => by
            show wn n w a b = 0
            unfold wn
            rw [if_neg (by omega)])
          have hJ : JN n u v (run n u v n (fun _ _ => 1, wn n w, K0 n w)).2.1 := JN_run n _ (Iv_0 cw) (JN_0 hCC hu hv)
          have hE := run_end (u := u) (v := v) n (fun _ _ => 1, wn n w, K0 n w) (Iv_0 cw) ni_le
          generalize run n u v n (fun _ _ => 1, wn n w, K0 n w) = R at *
          have hsz := a4.sz
          have hz62 : ∀ a b, R.2.1 a b < 2 ^ 62 := fun a b => by
            by_cases q : R.2.1 a b = 0
            · rw [q]; decide
            · refine (hsz a b ?_ ?_ q).2
              · exact Classical.byContradiction fun r => q (hO a b (Or.inl (by omega)))
              · exact Classical.byContradiction fun r => q (hO a b (Or.inr (by omega)))
          have h2C := two_C hn a4.1 a4.2.2.2.1 hO
          have hl : f_X3_linesLeft σ1 = some (nI (Cn R.2.1)) := by
            rw [f_left_yes a3 hn hsz, h2C, show 2 * Cn R.2.1 / 2 = Cn R.2.1 by omega]
          have hCn : Cn R.2.1 ≤ 36 := by
            have := sum_bd (f := ct R.2.1) (B := 1) 36 (fun i _ => by unfold ct; split <;> omega)
            unfold Cn
            omega
          have hm := f_mleft_yes g3 hz62
          have F5 : FrZ σ1 σ5 := (((Fr.mono b2 (by simp) (by simp) (by simp)).tr (Fr.mono d2 (by simp) (by simp) (by simp))).tr (Fr.mono e2 (by simp) (by simp) (by simp))).tr (Fr.mono g2 (by simp) (by simp) (by simp))
          have fin : Inv σ5 := ⟨n, w, H, c, len, P1.sm (Fr.sm F5 (hWR.cg F1.2.2.2) (by decide) (by decide) (by decide))⟩
          have e6 : f_X6_reduced σ (nI u) (nI v) z = (if z = 0 then some ((nI (Cn R.2.1)).toInt64, σ1) else (if nI (Cn R.2.1) = (1 : Int32) then (f_X3_joined σ1 (nI u) (nI v)).bind (fun t11 => (if t11 = 0 then some ((-9 : Int64), σ1) else (if z = (1 : Int32) then (f_X3_upperAt σ1 (nI u) (nI v)).bind (fun t15 => some (t15, σ1)) else (f_X3_lowerAt σ1 (nI u) (nI v)).bind (fun t14 => some (t14, σ1))))) else some ((-9 : Int64), σ1))) := by
            unfold f_X6_reduced
            rw [f_areTwo_yes cn.1 hn hu hv, if_neg huv, Option.bind_some, if_neg ne10, if_neg z0, if_pos z2, f_hangs_yes cw cn, Option.bind_some, hh, if_neg bIt, a1, Option.bind_some, hl, Option.bind_some]
          have e7 : f_X7_reduced σ1 (nI u) (nI v) z = (if z = 0 then some ((nI (Cn R.2.1)).toInt64, σ5) else (if nI (Cn R.2.1) ≤ (1 : Int32) then (if z = (1 : Int32) then some (gJ σ5 54 (6 * u + v), σ5) else some (gJ σ5 55 (6 * u + v), σ5)) else some ((-9 : Int64), σ5))) := by
            unfold f_X7_reduced
            rw [f_isNode_yes C1.2.2.1 hn hu, Option.bind_some, if_neg ne10, f_isNode_yes C1.2.2.1 hn hv, Option.bind_some, if_neg ne10, if_neg hne, f_in_02, if_neg hz, Option.bind_some, if_neg ne10, m9, b1, Option.bind_some, if_neg bIt]
            dsimp only
            rw [d1, Option.bind_some, e1, Option.bind_some, g1, Option.bind_some, hm, Option.bind_some, jx6, gd_h (okI_nI (by omega) (by omega)), gd_h (okI_nI (by omega) (by omega)), nI_clamp (by omega)]
          by_cases q0 : z = 0
          · exact ⟨_, σ1, σ5, by rw [e6, if_pos q0], by rw [e7, if_pos q0], fin⟩
          · by_cases q1 : Cn R.2.1 ≤ 1
            · obtain ⟨o1, o2⟩ := one_left hn huv a4.1 a4.2.2.2.1 hO hJ hE q1
              have hc5 := g3.2 u v (by omega) (by omega)
              rw [if_neg q0, o1, if_pos (show nI 1 = 1 from rfl), f_joined_yes a3 hn hsz hu hv, Option.bind_some, decide_eq_true o2, if_neg bIt, f_upper_yes a3 hn hu hv o2, f_lower_yes a3 hn hu hv, Option.bind_some, Option.bind_some] at e6
              rw [if_neg q0, o1, if_pos (by decide), hc5.1, hc5.2 o2] at e7
              by_cases q2 : z = 1
              · exact ⟨_, σ1, σ5, by rw [e6, if_pos q2], by rw [e7, if_pos q2], fin⟩
              · exact ⟨_, σ1, σ5, by rw [e6, if_neg q2], by rw [e7, if_neg q2], fin⟩
            · refine ⟨-9, σ1, σ5, ?_, ?_, fin⟩
              · rw [e6, if_neg q0, if_neg (by rw [il_1, nI_eq (by omega) (by omega)]; omega)]
              · rw [e7, if_neg q0, if_neg (by rw [il_1]; exact nI_ge (by omega) (by omega))]
