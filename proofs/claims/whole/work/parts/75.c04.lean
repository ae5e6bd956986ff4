set_option maxHeartbeats 4000000 in
set_option maxRecDepth 100000 in
theorem c_X6_trees (l : Launch) (dC : Nat → ClassId) (dI : Nat → Nat → Nat) (ad : Nat → Nat) (cA : Nat → ClassId) (σ : Sg)  (z : Int64 × Sg) (hB : f_X6_trees σ = some z) : Kl l dC dI ad cA yX6_trees wsX6_trees 4 90 [.ref (ad 0)] σ z := by
  refine mk_l (cc := cX6_trees) (maxL := 1) (ret := (some .long)) (by decide) rfl (Nat.le_of_ble_eq_true rfl) ?_
  intro p e s m args below meth c Q H locs ls ⟨hx, hb, hr, hml, hown, hts, hlocks, hK, hN⟩ hQ hS hl
  have hown : s.vm.findClass RX6 = some m.cls := hown
  have hl : lv_has ls 1 [(0, .ref (ad 0))] := hl
  have hk_f43 := hts (.fieldLink RX6 43 "ChanceNets" "balance" "LChanceNets$Balance;") (by decide +kernel)
  have hin_X6 : ∀ w ∈ u_ws RX6 TX6 13, w ∈ wsX6_trees := by decide +kernel
  have hk_f19 := hts (.fieldLink RX6 19 "ChanceNets" "now" "LChanceNets$Net;") (by decide +kernel)
  unfold f_X6_trees at hB
  refine lv_aload_n hx hb dX6_trees_0 rfl (lv_at hl 0 rfl) ?_
  refine r_get (v := .ref (ad 28)) (C := RX6) (T := TX6) (N := 13) hx hb hts hin_X6 hown hK hS (by decide) e_0 rfl 6 (by decide) hk_f43 rfl rfl dX6_trees_1 ?_
  refine lv_aload_n hx hb dX6_trees_4 rfl (lv_at hl 0 rfl) ?_
  refine r_get (v := .ref (ad 3)) (C := RX6) (T := TX6) (N := 13) hx hb hts hin_X6 hown hK hS (by decide) e_0 rfl 1 (by decide) hk_f19 rfl rfl dX6_trees_5 ?_
  obtain ⟨t1, ht1, hB⟩ := bi_at hB
  refine r_Vl ⟨hx, hb, hml, hown, hts⟩ (c_X0_treeSum l dC dI ad cA σ 0 (by decide) t1 ht1) (cwV 1 hts gX6_trees_X0_treeSum rfl rfl rfl (by decide +kernel) ⟨Nat.le_of_ble_eq_true rfl, Nat.le_of_ble_eq_true rfl⟩) hK hN hS (by decide) e_28 rfl rfl hl.1 rfl (Nat.le_of_ble_eq_true rfl) dX6_trees_8 ⟨Nat.le_refl _, Nat.le_refl _⟩ (fun H locs hS => ?_)
  subst hQ
  exact r_lret hx hb hr hK hS hB hlocks dX6_trees_11
set_option maxHeartbeats 4000000 in
set_option maxRecDepth 100000 in
theorem c_X6_leaveOut (l : Launch) (dC : Nat → ClassId) (dI : Nat → Nat → Nat) (ad : Nat → Nat) (cA : Nat → ClassId) (σ : Sg) (a1 : Int32) (z : Sg) (hB : f_X6_leaveOut σ a1 = some z) : Kv l dC dI ad cA yX6_leaveOut wsX6_leaveOut 2 47 [.ref (ad 0), .int a1] σ z := by
  refine mk_v (cc := cX6_leaveOut) (maxL := 2) (ret := none) (by decide) rfl (Nat.le_of_ble_eq_true rfl) ?_
  intro p e s m args below meth c Q H locs ls ⟨hx, hb, hr, hml, hown, hts, hlocks, hK, hN⟩ hQ hS hl
  have hown : s.vm.findClass RX6 = some m.cls := hown
  have hl : lv_has ls 2 [(0, .ref (ad 0)), (1, .int a1)] := hl
  have hk_f26 := hts (.fieldLink RX6 26 "ChanceNets" "less" "LChanceNets$Net;") (by decide +kernel)
  have hin_X6 : ∀ w ∈ u_ws RX6 TX6 13, w ∈ wsX6_leaveOut := by decide +kernel
  have hk_f19 := hts (.fieldLink RX6 19 "ChanceNets" "now" "LChanceNets$Net;") (by decide +kernel)
  unfold f_X6_leaveOut at hB
  refine lv_aload_n hx hb dX6_leaveOut_0 rfl (lv_at hl 0 rfl) ?_
  refine r_get (v := .ref (ad 11)) (C := RX6) (T := TX6) (N := 13) hx hb hts hin_X6 hown hK hS (by decide) e_0 rfl 3 (by decide) hk_f26 rfl rfl dX6_leaveOut_1 ?_
  refine lv_aload_n hx hb dX6_leaveOut_4 rfl (lv_at hl 0 rfl) ?_
  refine r_get (v := .ref (ad 3)) (C := RX6) (T := TX6) (N := 13) hx hb hts hin_X6 hown hK hS (by decide) e_0 rfl 1 (by decide) hk_f19 rfl rfl dX6_leaveOut_5 ?_
  obtain ⟨t1, ht1, hB⟩ := bi_at hB
  refine r_Vv ⟨hx, hb, hml, hown, hts⟩ (c_X1_copyFrom l dC dI ad cA σ 2 (by decide) 0 (by decide) t1 ht1) (cwV 1 hts gX6_leaveOut_X1_copyFrom rfl rfl rfl (by decide +kernel) ⟨Nat.le_of_ble_eq_true rfl, Nat.le_of_ble_eq_true rfl⟩) hK hN hS (by decide) (e_net (k := 2) (by decide)) rfl rfl hl.1 rfl (Nat.le_of_ble_eq_true rfl) dX6_leaveOut_8 ⟨Nat.le_refl _, Nat.le_refl _⟩ (fun H locs hS => ?_)
  refine lv_aload_n hx hb dX6_leaveOut_11 rfl (lv_at hl 0 rfl) ?_
  refine r_get (v := .ref (ad 11)) (C := RX6) (T := TX6) (N := 13) hx hb hts hin_X6 hown hK hS (by decide) e_0 rfl 3 (by decide) hk_f26 rfl rfl dX6_leaveOut_12 ?_
  refine lv_aload_n hx hb dX6_leaveOut_15 rfl (lv_at hl 0 rfl) ?_
  refine r_get (v := .ref (ad 3)) (C := RX6) (T := TX6) (N := 13) hx hb hts hin_X6 hown hK hS (by decide) e_0 rfl 1 (by decide) hk_f19 rfl rfl dX6_leaveOut_16 ?_
  refine lv_iload_n hx hb dX6_leaveOut_19 rfl (lv_at hl 1 rfl) ?_
  obtain ⟨t2, ht2, hB⟩ := bi_at hB
  refine r_ViP ⟨hx, hb, hml, hown, hts⟩ (c_X1_lowOf l dC dI ad cA t1 0 (by decide) a1 t2 ht2) (cwV 1 hts gX6_leaveOut_X1_lowOf rfl rfl rfl (by decide +kernel) ⟨Nat.le_of_ble_eq_true rfl, Nat.le_of_ble_eq_true rfl⟩) hK hN hS (by decide) (e_net (k := 0) (by decide)) rfl rfl hl.1 rfl (Nat.le_of_ble_eq_true rfl) dX6_leaveOut_20 ⟨Nat.le_refl _, Nat.le_refl _⟩ (fun H locs hS => ?_)
  refine lv_aload_n hx hb dX6_leaveOut_23 rfl (lv_at hl 0 rfl) ?_
  refine r_get (v := .ref (ad 3)) (C := RX6) (T := TX6) (N := 13) hx hb hts hin_X6 hown hK hS (by decide) e_0 rfl 1 (by decide) hk_f19 rfl rfl dX6_leaveOut_24 ?_
  refine lv_iload_n hx hb dX6_leaveOut_27 rfl (lv_at hl 1 rfl) ?_
  obtain ⟨t3, ht3, hB⟩ := bi_at hB
  refine r_ViP ⟨hx, hb, hml, hown, hts⟩ (c_X1_highOf l dC dI ad cA t1 0 (by decide) a1 t3 ht3) (cwV 1 hts gX6_leaveOut_X1_highOf rfl rfl rfl (by decide +kernel) ⟨Nat.le_of_ble_eq_true rfl, Nat.le_of_ble_eq_true rfl⟩) hK hN hS (by decide) (e_net (k := 0) (by decide)) rfl rfl hl.1 rfl (Nat.le_of_ble_eq_true rfl) dX6_leaveOut_28 ⟨Nat.le_refl _, Nat.le_refl _⟩ (fun H locs hS => ?_)
  refine lv_iconst (v := (0 : Int32)) hx hb dX6_leaveOut_31 (by decide) ?_
  obtain ⟨t4, ht4, hB⟩ := bi_at hB
  refine r_Vv ⟨hx, hb, hml, hown, hts⟩ (c_X1_put l dC dI ad cA t1 2 (by decide) t2 t3 (0 : Int32) t4 ht4) (cwV 3 hts gX6_leaveOut_X1_put rfl rfl rfl (by decide +kernel) ⟨Nat.le_of_ble_eq_true rfl, Nat.le_of_ble_eq_true rfl⟩) hK hN hS (by decide) (e_net (k := 2) (by decide)) rfl rfl hl.1 rfl (Nat.le_of_ble_eq_true rfl) dX6_leaveOut_32 ⟨Nat.le_refl _, Nat.le_refl _⟩ (fun H locs hS => ?_)
  subst hQ
  exact r_vret hx hb hr hK hS hB hlocks dX6_leaveOut_35
set_option maxHeartbeats 4000000 in
set_option maxRecDepth 100000 in
theorem c_X6_treesWithout (l : Launch) (dC : Nat → ClassId) (dI : Nat → Nat → Nat) (ad : Nat → Nat) (cA : Nat → ClassId) (σ : Sg) (a1 : Int32) (z : Int64 × Sg) (hB : f_X6_treesWithout σ a1 = some z) : Kl l dC dI ad cA yX6_treesWithout wsX6_treesWithout 4 90 [.ref (ad 0), .int a1] σ z := by
  refine mk_l (cc := cX6_treesWithout) (maxL := 2) (ret := (some .long)) (by decide) rfl (Nat.le_of_ble_eq_true rfl) ?_
  intro p e s m args below meth c Q H locs ls ⟨hx, hb, hr, hml, hown, hts, hlocks, hK, hN⟩ hQ hS hl
  have hown : s.vm.findClass RX6 = some m.cls := hown
  have hl : lv_has ls 2 [(0, .ref (ad 0)), (1, .int a1)] := hl
  have hk_f43 := hts (.fieldLink RX6 43 "ChanceNets" "balance" "LChanceNets$Balance;") (by decide +kernel)
  have hin_X6 : ∀ w ∈ u_ws RX6 TX6 13, w ∈ wsX6_treesWithout := by decide +kernel
  have hk_f26 := hts (.fieldLink RX6 26 "ChanceNets" "less" "LChanceNets$Net;") (by decide +kernel)
  unfold f_X6_treesWithout at hB
  refine lv_aload_n hx hb dX6_treesWithout_0 rfl (lv_at hl 0 rfl) ?_
  refine lv_iload_n hx hb dX6_treesWithout_1 rfl (lv_at hl 1 rfl) ?_
  obtain ⟨t1, ht1, hB⟩ := bi_at hB
  refine r_Vv ⟨hx, hb, hml, hown, hts⟩ (c_X6_leaveOut l dC dI ad cA σ a1 t1 ht1) (cwV 1 hts gX6_treesWithout_X6_leaveOut rfl rfl rfl (by decide +kernel) ⟨Nat.le_of_ble_eq_true rfl, Nat.le_of_ble_eq_true rfl⟩) hK hN hS (by decide) e_0 rfl rfl hl.1 rfl (Nat.le_of_ble_eq_true rfl) dX6_treesWithout_2 ⟨Nat.le_refl _, Nat.le_refl _⟩ (fun H locs hS => ?_)
  refine lv_aload_n hx hb dX6_treesWithout_5 rfl (lv_at hl 0 rfl) ?_
  refine r_get (v := .ref (ad 28)) (C := RX6) (T := TX6) (N := 13) hx hb hts hin_X6 hown hK hS (by decide) e_0 rfl 6 (by decide) hk_f43 rfl rfl dX6_treesWithout_6 ?_
  refine lv_aload_n hx hb dX6_treesWithout_9 rfl (lv_at hl 0 rfl) ?_
  refine r_get (v := .ref (ad 11)) (C := RX6) (T := TX6) (N := 13) hx hb hts hin_X6 hown hK hS (by decide) e_0 rfl 3 (by decide) hk_f26 rfl rfl dX6_treesWithout_10 ?_
  obtain ⟨t2, ht2, hB⟩ := bi_at hB
  refine r_Vl ⟨hx, hb, hml, hown, hts⟩ (c_X0_treeSum l dC dI ad cA t1 2 (by decide) t2 ht2) (cwV 1 hts gX6_treesWithout_X0_treeSum rfl rfl rfl (by decide +kernel) ⟨Nat.le_of_ble_eq_true rfl, Nat.le_of_ble_eq_true rfl⟩) hK hN hS (by decide) e_28 rfl rfl hl.1 rfl (Nat.le_of_ble_eq_true rfl) dX6_treesWithout_13 ⟨Nat.le_refl _, Nat.le_refl _⟩ (fun H locs hS => ?_)
  subst hQ
  exact r_lret hx hb hr hK hS hB hlocks dX6_treesWithout_16
set_option maxHeartbeats 4000000 in
set_option maxRecDepth 100000 in
theorem c_X6_share (l : Launch) (dC : Nat → ClassId) (dI : Nat → Nat → Nat) (ad : Nat → Nat) (cA : Nat → ClassId) (σ : Sg) (a1 : Int32) (a2 : Int32) (z : Int64 × Sg) (hB : f_X6_share σ a1 a2 = some z) : Kl l dC dI ad cA yX6_share wsX6_share 5 111 [.ref (ad 0), .int a1, .int a2] σ z := by
  refine mk_l (cc := cX6_share) (maxL := 5) (ret := (some .long)) (by decide) rfl (Nat.le_of_ble_eq_true rfl) ?_
  intro p e s m args below meth c Q H locs ls ⟨hx, hb, hr, hml, hown, hts, hlocks, hK, hN⟩ hQ hS hl
  have hown : s.vm.findClass RX6 = some m.cls := hown
  have hl : lv_has ls 5 [(0, .ref (ad 0)), (1, .int a1), (2, .int a2)] := hl
  have hk_f19 := hts (.fieldLink RX6 19 "ChanceNets" "now" "LChanceNets$Net;") (by decide +kernel)
  have hin_X6 : ∀ w ∈ u_ws RX6 TX6 13, w ∈ wsX6_share := by decide +kernel
  have hk_c143 := hts (.constantLong RX6 143 (-1)) (by decide +kernel)
  have hk_f43 := hts (.fieldLink RX6 43 "ChanceNets" "balance" "LChanceNets$Balance;") (by decide +kernel)
  have hk_c149 := hts (.constantLong RX6 149 (-2)) (by decide +kernel)
  unfold f_X6_share at hB
  refine lv_aload_n hx hb dX6_share_0 rfl (lv_at hl 0 rfl) ?_
  refine r_get (v := .ref (ad 3)) (C := RX6) (T := TX6) (N := 13) hx hb hts hin_X6 hown hK hS (by decide) e_0 rfl 1 (by decide) hk_f19 rfl rfl dX6_share_1 ?_
  refine lv_iload_n hx hb dX6_share_4 rfl (lv_at hl 1 rfl) ?_
  obtain ⟨t1, ht1, hB⟩ := bi_at hB
  refine r_ViP ⟨hx, hb, hml, hown, hts⟩ (c_X1_hasLine l dC dI ad cA σ 0 (by decide) a1 t1 ht1) (cwV 1 hts gX6_share_X1_hasLine rfl rfl rfl (by decide +kernel) ⟨Nat.le_of_ble_eq_true rfl, Nat.le_of_ble_eq_true rfl⟩) hK hN hS (by decide) (e_net (k := 0) (by decide)) rfl rfl hl.1 rfl (Nat.le_of_ble_eq_true rfl) dX6_share_5 ⟨Nat.le_refl _, Nat.le_refl _⟩ (fun H locs hS => ?_)
  refine lv_if_eq (tgt := 18) hx hb dX6_share_8 (by decide) (fun c2 => ?_) (fun c2 => ?_)
  · have hB := it_t c2 hB
    refine lv_ldc2 (v := (-1 : Int64)) hx hb hown hk_c143 dX6_share_18 ?_
    subst hQ
    exact r_lret hx hb hr hK hS hB hlocks dX6_share_21
  · have hB := it_f c2 hB
    refine lv_iload_n hx hb dX6_share_11 rfl (lv_at hl 2 rfl) ?_
    obtain ⟨t3, ht3, hB⟩ := bi_at hB
    refine r_SiP ⟨hx, hb, hml, hown, hts⟩ (c_X6_isPart l dC dI ad cA σ a2 t3 ht3) (va_cwS 1 hts gX6_share_X6_isPart rfl rfl rfl (by decide +kernel) ⟨Nat.le_of_ble_eq_true rfl, Nat.le_of_ble_eq_true rfl⟩) hK hN hS rfl hl.1 rfl (Nat.le_of_ble_eq_true rfl) dX6_share_12 ⟨Nat.le_refl _, Nat.le_refl _⟩ (fun H locs hS => ?_)
    refine lv_if_ne (tgt := 22) hx hb dX6_share_15 (by decide) (fun c4 => ?_) (fun c4 => ?_)
    · have hB := it_f c4 hB
      refine lv_aload_n hx hb dX6_share_22 rfl (lv_at hl 0 rfl) ?_
      refine r_get (v := .ref (ad 3)) (C := RX6) (T := TX6) (N := 13) hx hb hts hin_X6 hown hK hS (by decide) e_0 rfl 1 (by decide) hk_f19 rfl rfl dX6_share_23 ?_
      obtain ⟨t5, ht5, hB⟩ := bi_at hB
      refine r_ViP ⟨hx, hb, hml, hown, hts⟩ (c_X1_hangs l dC dI ad cA σ 0 (by decide) t5 ht5) (cwV 0 hts gX6_share_X1_hangs rfl rfl rfl (by decide +kernel) ⟨Nat.le_of_ble_eq_true rfl, Nat.le_of_ble_eq_true rfl⟩) hK hN hS (by decide) (e_net (k := 0) (by decide)) rfl rfl hl.1 rfl (Nat.le_of_ble_eq_true rfl) dX6_share_26 ⟨Nat.le_refl _, Nat.le_refl _⟩ (fun H locs hS => ?_)
      refine lv_if_ne (tgt := 36) hx hb dX6_share_29 (by decide) (fun c6 => ?_) (fun c6 => ?_)
      · have hB := it_f c6 hB
        refine lv_aload_n hx hb dX6_share_36 rfl (lv_at hl 0 rfl) ?_
        refine r_get (v := .ref (ad 28)) (C := RX6) (T := TX6) (N := 13) hx hb hts hin_X6 hown hK hS (by decide) e_0 rfl 6 (by decide) hk_f43 rfl rfl dX6_share_37 ?_
        refine lv_aload_n hx hb dX6_share_40 rfl (lv_at hl 0 rfl) ?_
        refine r_get (v := .ref (ad 3)) (C := RX6) (T := TX6) (N := 13) hx hb hts hin_X6 hown hK hS (by decide) e_0 rfl 1 (by decide) hk_f19 rfl rfl dX6_share_41 ?_
        obtain ⟨t7, ht7, hB⟩ := bi_at hB
        refine r_Vl ⟨hx, hb, hml, hown, hts⟩ (c_X0_treeSum l dC dI ad cA σ 0 (by decide) t7 ht7) (cwV 1 hts gX6_share_X0_treeSum rfl rfl rfl (by decide +kernel) ⟨Nat.le_of_ble_eq_true rfl, Nat.le_of_ble_eq_true rfl⟩) hK hN hS (by decide) e_28 rfl rfl hl.1 rfl (Nat.le_of_ble_eq_true rfl) dX6_share_44 ⟨Nat.le_refl _, Nat.le_refl _⟩ (fun H locs hS => ?_)
        refine lv_lstore_n (lv' := [(3, .long t7.1), (0, .ref (ad 0)), (1, .int a1), (2, .int a2)]) hx hb dX6_share_47 rfl hl (by decide) rfl (fun ls hl => ?_)
        refine lv_lload_n hx hb dX6_share_48 rfl (lv_at hl 0 rfl) ?_
        refine lv_aload_n hx hb dX6_share_49 rfl (lv_at hl 1 rfl) ?_
        refine lv_iload_n hx hb dX6_share_50 rfl (lv_at hl 2 rfl) ?_
        obtain ⟨t8, ht8, hB⟩ := bi_at hB
        refine r_Vl ⟨hx, hb, hml, hown, hts⟩ (c_X6_treesWithout l dC dI ad cA t7.2 a1 t8 ht8) (cwV 1 hts gX6_share_X6_treesWithout rfl rfl rfl (by decide +kernel) ⟨Nat.le_of_ble_eq_true rfl, Nat.le_of_ble_eq_true rfl⟩) hK hN hS (by decide) e_0 rfl rfl hl.1 rfl (Nat.le_of_ble_eq_true rfl) dX6_share_51 ⟨Nat.le_refl _, Nat.le_refl _⟩ (fun H locs hS => ?_)
        refine lv_lsub hx hb dX6_share_54 ?_
        refine lv_lload_n hx hb dX6_share_55 rfl (lv_at hl 0 rfl) ?_
        refine lv_iload_n hx hb dX6_share_56 rfl (lv_at hl 3 rfl) ?_
        obtain ⟨t9, ht9, hB⟩ := bi_at hB
        refine r_SlP ⟨hx, hb, hml, hown, hts⟩ (c_X6_partOf l dC dI ad cA t8.2 (t7.1 - t8.1) t7.1 a2 t9 ht9) (va_cwS 3 hts gX6_share_X6_partOf rfl rfl rfl (by decide +kernel) ⟨Nat.le_of_ble_eq_true rfl, Nat.le_of_ble_eq_true rfl⟩) hK hN hS rfl hl.1 rfl (Nat.le_of_ble_eq_true rfl) dX6_share_57 ⟨Nat.le_refl _, Nat.le_refl _⟩ (fun H locs hS => ?_)
        subst hQ
        exact r_lret hx hb hr hK hS hB hlocks dX6_share_60
      · have hB := it_t c6 hB
        refine lv_ldc2 (v := (-2 : Int64)) hx hb hown hk_c149 dX6_share_32 ?_
        subst hQ
        exact r_lret hx hb hr hK hS hB hlocks dX6_share_35
    · have hB := it_t c4 hB
      refine lv_ldc2 (v := (-1 : Int64)) hx hb hown hk_c143 dX6_share_18 ?_
      subst hQ
      exact r_lret hx hb hr hK hS hB hlocks dX6_share_21
set_option maxHeartbeats 4000000 in
set_option maxRecDepth 100000 in
theorem c_X6_countRests (l : Launch) (dC : Nat → ClassId) (dI : Nat → Nat → Nat) (ad : Nat → Nat) (cA : Nat → ClassId) (σ : Sg)  (z : Sg) (hB : f_X6_countRests σ = some z) : Kv l dC dI ad cA yX6_countRests wsX6_countRests 5 111 [.ref (ad 0)] σ z := by
  refine mk_v (cc := cX6_countRests) (maxL := 2) (ret := none) (by decide) rfl (Nat.le_of_ble_eq_true rfl) ?_
  intro p e s m args below meth c Q H locs ls ⟨hx, hb, hr, hml, hown, hts, hlocks, hK, hN⟩ hQ hS hl
  have hown : s.vm.findClass RX6 = some m.cls := hown
  have hl : lv_has ls 2 [(0, .ref (ad 0))] := hl
  have hk_f19 := hts (.fieldLink RX6 19 "ChanceNets" "now" "LChanceNets$Net;") (by decide +kernel)
  have hin_X6 : ∀ w ∈ u_ws RX6 TX6 13, w ∈ wsX6_countRests := by decide +kernel
  have hk_f130 := hts (.fieldLink RX6 130 "ChanceNets$Net" "lines" "I") (by decide +kernel)
  have hin_X1 : ∀ w ∈ u_ws RX1 TX1 5, w ∈ wsX6_countRests := by decide +kernel
  have hk_f29 := hts (.fieldLink RX6 29 "ChanceNets" "rests" "[J") (by decide +kernel)
  unfold f_X6_countRests at hB
  refine lv_iconst (v := (0 : Int32)) hx hb dX6_countRests_0 (by decide) ?_
  refine lv_istore_n (lv' := [(1, .int (0 : Int32)), (0, .ref (ad 0))]) hx hb dX6_countRests_1 rfl hl (by decide) rfl (fun ls hl => ?_)
  obtain ⟨t8, ht8, hB⟩ := bi_at hB
  refine wl_W (body := fun a => f_X6_countRests_B2 a.1 a.2) (Hd := fun a : Int32 × Sg => ∀ (H : Heap) (locs : List Loc) (ls : Array Slot), ST dC dI ad cA s a.2 H locs → lv_has ls 2 [(0, .ref (ad 0)), (1, .int a.1)] → W p l e (RM 5 111) s m args below meth c H locs 0 0 Q (F0 m 2 ls [])) (Ex := fun b : Sg => ∀ (H : Heap) (locs : List Loc) (ls : Array Slot), ST dC dI ad cA s b H locs → lv_has ls 2 [] → W p l e (RM 5 111) s m args below meth c H locs 0 0 Q (F0 m 30 ls [])) ?_ FU _ t8 ht8 ?_ H locs ls hS (lv_sub hl [1, 0] rfl)
  · intro a r2 hB hI2 hE2 H locs ls hS hl
    obtain ⟨x1, σ2⟩ := a
    have hB : f_X6_countRests_B2 x1 σ2 = some r2 := hB
    unfold f_X6_countRests_B2 at hB
    have hS : ST dC dI ad cA s σ2 H locs := hS
    have hl : lv_has ls 2 [(0, .ref (ad 0)), (1, .int x1)] := hl
    show W p l e (RM 5 111) s m args below meth c H locs 0 0 Q (F0 m 2 ls [])
    refine lv_iload_n hx hb dX6_countRests_2 rfl (lv_at hl 1 rfl) ?_
    refine lv_aload_n hx hb dX6_countRests_3 rfl (lv_at hl 0 rfl) ?_
    refine r_get (v := .ref (ad 3)) (C := RX6) (T := TX6) (N := 13) hx hb hts hin_X6 hown hK hS (by decide) e_0 rfl 1 (by decide) hk_f19 rfl rfl dX6_countRests_4 ?_
    refine r_get (v := .int (gI σ2 5)) (C := RX1) (T := TX1) (N := 5) hx hb hts hin_X1 hown hK hS (by decide) (e_net (k := 0) (by decide)) rfl 1 (by decide) hk_f130 rfl rfl dX6_countRests_7 ?_
    refine lv_icmp_ge (tgt := 30) hx hb dX6_countRests_10 (by decide) (fun c3 => ?_) (fun c3 => ?_)
    · have hB := it_t c3 hB
      exact hE2 _ (Option.some.inj hB).symm H locs ls hS (lv_sub hl [] rfl)
    · have hB := it_f c3 hB
      refine lv_aload_n hx hb dX6_countRests_13 rfl (lv_at hl 0 rfl) ?_
      refine r_get (v := .ref (ad 23)) (C := RX6) (T := TX6) (N := 13) hx hb hts hin_X6 hown hK hS (by decide) e_0 rfl 4 (by decide) hk_f29 rfl rfl dX6_countRests_14 ?_
      refine lv_iload_n hx hb dX6_countRests_17 rfl (lv_at hl 1 rfl) ?_
      refine lv_aload_n hx hb dX6_countRests_18 rfl (lv_at hl 0 rfl) ?_
      refine lv_iload_n hx hb dX6_countRests_19 rfl (lv_at hl 1 rfl) ?_
      obtain ⟨t4, ht4, hB⟩ := bi_at hB
      refine r_Vl ⟨hx, hb, hml, hown, hts⟩ (c_X6_treesWithout l dC dI ad cA σ2 x1 t4 ht4) (cwV 1 hts gX6_countRests_X6_treesWithout rfl rfl rfl (by decide +kernel) ⟨Nat.le_of_ble_eq_true rfl, Nat.le_of_ble_eq_true rfl⟩) hK hN hS (by decide) e_0 rfl rfl hl.1 rfl (Nat.le_of_ble_eq_true rfl) dX6_countRests_20 ⟨Nat.le_refl _, Nat.le_refl _⟩ (fun H locs hS => ?_)
      obtain ⟨h5, hB⟩ := gd_at hB
      refine r_last hx hb hK hS h5 dX6_countRests_23 (fun H locs hS => ?_)
      obtain ⟨σ6, eσ6⟩ : ∃ t : Sg, t = pJ t4.2 23 x1.toNatClampNeg t4.1 := ⟨_, rfl⟩
      rw [← eσ6] at hS
      have hB := vl_at eσ6 hB
      obtain ⟨x7, ex7⟩ : ∃ y : Int32, y = x1 + (1 : Int32) := ⟨_, rfl⟩
      have hB := vl_at ex7 hB
      refine lv_iinc (v := x7) (lv' := [(1, .int x7), (0, .ref (ad 0))]) hx hb dX6_countRests_24 hl (k := 1) rfl (by rw [ex7]; rfl) (by decide) rfl (fun ls hl => ?_)
      refine lv_goto (tgt := 2) hx hb dX6_countRests_27 (by decide) ?_
      exact hI2 _ (Option.some.inj hB).symm H locs ls hS (lv_sub hl [1, 0] rfl)
  · skip
    intro H locs ls hS hl
    have hS : ST dC dI ad cA s t8 H locs := hS
    have hl : lv_has ls 2 [] := hl
    show W p l e (RM 5 111) s m args below meth c H locs 0 0 Q (F0 m 30 ls [])
    subst hQ
    exact r_vret hx hb hr hK hS hB hlocks dX6_countRests_30
set_option maxHeartbeats 4000000 in
set_option maxRecDepth 100000 in
theorem c_X6_linesRankedAhead (l : Launch) (dC : Nat → ClassId) (dI : Nat → Nat → Nat) (ad : Nat → Nat) (cA : Nat → ClassId) (σ : Sg) (a1 : Int32) (z : Int32) (hB : f_X6_linesRankedAhead σ a1 = some z) : Ki l dC dI ad cA yX6_linesRankedAhead wsX6_linesRankedAhead 0 0 [.ref (ad 0), .int a1] σ (z, σ) := by
  refine mk_i (cc := cX6_linesRankedAhead) (maxL := 4) (ret := (some .int)) (by decide) rfl (Nat.le_of_ble_eq_true rfl) ?_
  intro p e s m args below meth c Q H locs ls ⟨hx, hb, hr, hml, hown, hts, hlocks, hK, hN⟩ hQ hS hl
  have hown : s.vm.findClass RX6 = some m.cls := hown
  have hl : lv_has ls 4 [(0, .ref (ad 0)), (1, .int a1)] := hl
  have hk_f19 := hts (.fieldLink RX6 19 "ChanceNets" "now" "LChanceNets$Net;") (by decide +kernel)
  have hin_X6 : ∀ w ∈ u_ws RX6 TX6 13, w ∈ wsX6_linesRankedAhead := by decide +kernel
  have hk_f130 := hts (.fieldLink RX6 130 "ChanceNets$Net" "lines" "I") (by decide +kernel)
  have hin_X1 : ∀ w ∈ u_ws RX1 TX1 5, w ∈ wsX6_linesRankedAhead := by decide +kernel
  have hk_f29 := hts (.fieldLink RX6 29 "ChanceNets" "rests" "[J") (by decide +kernel)
  unfold f_X6_linesRankedAhead at hB
  refine lv_iconst (v := (0 : Int32)) hx hb dX6_linesRankedAhead_0 (by decide) ?_
  refine lv_istore_n (lv' := [(2, .int (0 : Int32)), (0, .ref (ad 0)), (1, .int a1)]) hx hb dX6_linesRankedAhead_1 rfl hl (by decide) rfl (fun ls hl => ?_)
  refine lv_iconst (v := (0 : Int32)) hx hb dX6_linesRankedAhead_2 (by decide) ?_
  refine lv_istore_n (lv' := [(3, .int (0 : Int32)), (2, .int (0 : Int32)), (0, .ref (ad 0)), (1, .int a1)]) hx hb dX6_linesRankedAhead_3 rfl hl (by decide) rfl (fun ls hl => ?_)
  obtain ⟨t17, ht17, hB⟩ := bi_at hB
  refine wl_W (body := fun a => f_X6_linesRankedAhead_B4 σ a1 a.1 a.2) (Hd := fun a : Int32 × Int32 => ∀ (H : Heap) (locs : List Loc) (ls : Array Slot), ST dC dI ad cA s σ H locs → lv_has ls 4 [(0, .ref (ad 0)), (1, .int a1), (2, .int a.1), (3, .int a.2)] → W p l e (RM 0 0) s m args below meth c H locs 0 0 Q (F0 m 4 ls [])) (Ex := fun b : Int32 => ∀ (H : Heap) (locs : List Loc) (ls : Array Slot), ST dC dI ad cA s σ H locs → lv_has ls 4 [(2, .int b)] → W p l e (RM 0 0) s m args below meth c H locs 0 0 Q (F0 m 61 ls [])) ?_ FU _ t17 ht17 ?_ H locs ls hS (lv_sub hl [2, 3, 1, 0] rfl)
  · intro a r4 hB hI4 hE4 H locs ls hS hl
    obtain ⟨x1, x2⟩ := a
    have hB : f_X6_linesRankedAhead_B4 σ a1 x1 x2 = some r4 := hB
    unfold f_X6_linesRankedAhead_B4 at hB
    have hS : ST dC dI ad cA s σ H locs := hS
    have hl : lv_has ls 4 [(0, .ref (ad 0)), (1, .int a1), (2, .int x1), (3, .int x2)] := hl
    show W p l e (RM 0 0) s m args below meth c H locs 0 0 Q (F0 m 4 ls [])
    refine lv_iload_n hx hb dX6_linesRankedAhead_4 rfl (lv_at hl 3 rfl) ?_
    refine lv_aload_n hx hb dX6_linesRankedAhead_5 rfl (lv_at hl 0 rfl) ?_
    refine r_get (v := .ref (ad 3)) (C := RX6) (T := TX6) (N := 13) hx hb hts hin_X6 hown hK hS (by decide) e_0 rfl 1 (by decide) hk_f19 rfl rfl dX6_linesRankedAhead_6 ?_
    refine r_get (v := .int (gI σ 5)) (C := RX1) (T := TX1) (N := 5) hx hb hts hin_X1 hown hK hS (by decide) (e_net (k := 0) (by decide)) rfl 1 (by decide) hk_f130 rfl rfl dX6_linesRankedAhead_9 ?_
    refine lv_icmp_ge (tgt := 61) hx hb dX6_linesRankedAhead_12 (by decide) (fun c3 => ?_) (fun c3 => ?_)
    · have hB := it_t c3 hB
      exact hE4 _ (Option.some.inj hB).symm H locs ls hS (lv_sub hl [2] rfl)
    · have hB := it_f c3 hB
      refine lv_aload_n hx hb dX6_linesRankedAhead_15 rfl (lv_at hl 0 rfl) ?_
      refine r_get (v := .ref (ad 23)) (C := RX6) (T := TX6) (N := 13) hx hb hts hin_X6 hown hK hS (by decide) e_0 rfl 4 (by decide) hk_f29 rfl rfl dX6_linesRankedAhead_16 ?_
      refine lv_iload_n hx hb dX6_linesRankedAhead_19 rfl (lv_at hl 3 rfl) ?_
      obtain ⟨h4, hB⟩ := gd_at hB
      refine r_lald hx hb hK hS h4 dX6_linesRankedAhead_20 ?_
      refine lv_aload_n hx hb dX6_linesRankedAhead_21 rfl (lv_at hl 0 rfl) ?_
      refine r_get (v := .ref (ad 23)) (C := RX6) (T := TX6) (N := 13) hx hb hts hin_X6 hown hK hS (by decide) e_0 rfl 4 (by decide) hk_f29 rfl rfl dX6_linesRankedAhead_22 ?_
      refine lv_iload_n hx hb dX6_linesRankedAhead_25 rfl (lv_at hl 1 rfl) ?_
      obtain ⟨h5, hB⟩ := gd_at hB
      refine r_lald hx hb hK hS h5 dX6_linesRankedAhead_26 ?_
      refine W.lcmp hx hb dX6_linesRankedAhead_27 ?_
      refine lv_if_lt (tgt := 52) hx hb dX6_linesRankedAhead_28 (by decide) (fun c6 => ?_) (fun c6 => ?_)
      · have hB := it_t ((lg_cmp_lt _ _).mp c6) hB
        obtain ⟨x7, ex7⟩ : ∃ y : Int32, y = x1 + (1 : Int32) := ⟨_, rfl⟩
        have hB := vl_at ex7 hB
        refine lv_iinc (v := x7) (lv' := [(2, .int x7), (0, .ref (ad 0)), (1, .int a1), (3, .int x2)]) hx hb dX6_linesRankedAhead_52 hl (k := 2) rfl (by rw [ex7]; rfl) (by decide) rfl (fun ls hl => ?_)
        obtain ⟨x8, ex8⟩ : ∃ y : Int32, y = x2 + (1 : Int32) := ⟨_, rfl⟩
        have hB := vl_at ex8 hB
        refine lv_iinc (v := x8) (lv' := [(3, .int x8), (2, .int x7), (0, .ref (ad 0)), (1, .int a1)]) hx hb dX6_linesRankedAhead_55 hl (k := 3) rfl (by rw [ex8]; rfl) (by decide) rfl (fun ls hl => ?_)
        refine lv_goto (tgt := 4) hx hb dX6_linesRankedAhead_58 (by decide) ?_
        exact hI4 _ (Option.some.inj hB).symm H locs ls hS (lv_sub hl [2, 3, 1, 0] rfl)
      · have hB := it_f (fun q => c6 ((lg_cmp_lt _ _).mpr q)) hB
        refine lv_aload_n hx hb dX6_linesRankedAhead_31 rfl (lv_at hl 0 rfl) ?_
        refine r_get (v := .ref (ad 23)) (C := RX6) (T := TX6) (N := 13) hx hb hts hin_X6 hown hK hS (by decide) e_0 rfl 4 (by decide) hk_f29 rfl rfl dX6_linesRankedAhead_32 ?_
        refine lv_iload_n hx hb dX6_linesRankedAhead_35 rfl (lv_at hl 3 rfl) ?_
        obtain ⟨h9, hB⟩ := gd_at hB
        refine r_lald hx hb hK hS h9 dX6_linesRankedAhead_36 ?_
        refine lv_aload_n hx hb dX6_linesRankedAhead_37 rfl (lv_at hl 0 rfl) ?_
        refine r_get (v := .ref (ad 23)) (C := RX6) (T := TX6) (N := 13) hx hb hts hin_X6 hown hK hS (by decide) e_0 rfl 4 (by decide) hk_f29 rfl rfl dX6_linesRankedAhead_38 ?_
        refine lv_iload_n hx hb dX6_linesRankedAhead_41 rfl (lv_at hl 1 rfl) ?_
        obtain ⟨h10, hB⟩ := gd_at hB
        refine r_lald hx hb hK hS h10 dX6_linesRankedAhead_42 ?_
        refine W.lcmp hx hb dX6_linesRankedAhead_43 ?_
        refine lv_if_ne (tgt := 55) hx hb dX6_linesRankedAhead_44 (by decide) (fun c11 => ?_) (fun c11 => ?_)
        · have hB := it_f (fun q => c11 ((lg_cmp_eq _ _).mpr q)) hB
          obtain ⟨x12, ex12⟩ : ∃ y : Int32, y = x2 + (1 : Int32) := ⟨_, rfl⟩
          have hB := vl_at ex12 hB
          refine lv_iinc (v := x12) (lv' := [(3, .int x12), (0, .ref (ad 0)), (1, .int a1), (2, .int x1)]) hx hb dX6_linesRankedAhead_55 hl (k := 3) rfl (by rw [ex12]; rfl) (by decide) rfl (fun ls hl => ?_)
          refine lv_goto (tgt := 4) hx hb dX6_linesRankedAhead_58 (by decide) ?_
          exact hI4 _ (Option.some.inj hB).symm H locs ls hS (lv_sub hl [1, 2, 3, 0] rfl)
        · have hB := it_t ((lg_cmp_eq _ _).mp c11) hB
          refine lv_iload_n hx hb dX6_linesRankedAhead_47 rfl (lv_at hl 3 rfl) ?_
          refine lv_iload_n hx hb dX6_linesRankedAhead_48 rfl (lv_at hl 1 rfl) ?_
          refine lv_icmp_ge (tgt := 55) hx hb dX6_linesRankedAhead_49 (by decide) (fun c13 => ?_) (fun c13 => ?_)
          · have hB := it_t c13 hB
            obtain ⟨x14, ex14⟩ : ∃ y : Int32, y = x2 + (1 : Int32) := ⟨_, rfl⟩
            have hB := vl_at ex14 hB
            refine lv_iinc (v := x14) (lv' := [(3, .int x14), (0, .ref (ad 0)), (1, .int a1), (2, .int x1)]) hx hb dX6_linesRankedAhead_55 hl (k := 3) rfl (by rw [ex14]; rfl) (by decide) rfl (fun ls hl => ?_)
            refine lv_goto (tgt := 4) hx hb dX6_linesRankedAhead_58 (by decide) ?_
            exact hI4 _ (Option.some.inj hB).symm H locs ls hS (lv_sub hl [1, 2, 3, 0] rfl)
          · have hB := it_f c13 hB
            obtain ⟨x15, ex15⟩ : ∃ y : Int32, y = x1 + (1 : Int32) := ⟨_, rfl⟩
            have hB := vl_at ex15 hB
            refine lv_iinc (v := x15) (lv' := [(2, .int x15), (0, .ref (ad 0)), (1, .int a1), (3, .int x2)]) hx hb dX6_linesRankedAhead_52 hl (k := 2) rfl (by rw [ex15]; rfl) (by decide) rfl (fun ls hl => ?_)
            obtain ⟨x16, ex16⟩ : ∃ y : Int32, y = x2 + (1 : Int32) := ⟨_, rfl⟩
            have hB := vl_at ex16 hB
            refine lv_iinc (v := x16) (lv' := [(3, .int x16), (2, .int x15), (0, .ref (ad 0)), (1, .int a1)]) hx hb dX6_linesRankedAhead_55 hl (k := 3) rfl (by rw [ex16]; rfl) (by decide) rfl (fun ls hl => ?_)
            refine lv_goto (tgt := 4) hx hb dX6_linesRankedAhead_58 (by decide) ?_
            exact hI4 _ (Option.some.inj hB).symm H locs ls hS (lv_sub hl [2, 3, 1, 0] rfl)
  · skip
    intro H locs ls hS hl
    have hS : ST dC dI ad cA s σ H locs := hS
    have hl : lv_has ls 4 [(2, .int t17)] := hl
    show W p l e (RM 0 0) s m args below meth c H locs 0 0 Q (F0 m 61 ls [])
    refine lv_iload_n hx hb dX6_linesRankedAhead_61 rfl (lv_at hl 0 rfl) ?_
    subst hQ
    exact r_iret hx hb hr hK hS (pz hB) hlocks dX6_linesRankedAhead_62
set_option maxHeartbeats 4000000 in
set_option maxRecDepth 100000 in
theorem c_X6_rank (l : Launch) (dC : Nat → ClassId) (dI : Nat → Nat → Nat) (ad : Nat → Nat) (cA : Nat → ClassId) (σ : Sg) (a1 : Int32) (z : Int32 × Sg) (hB : f_X6_rank σ a1 = some z) : Ki l dC dI ad cA yX6_rank wsX6_rank 6 132 [.ref (ad 0), .int a1] σ z := by
  refine mk_i (cc := cX6_rank) (maxL := 3) (ret := (some .int)) (by decide) rfl (Nat.le_of_ble_eq_true rfl) ?_
  intro p e s m args below meth c Q H locs ls ⟨hx, hb, hr, hml, hown, hts, hlocks, hK, hN⟩ hQ hS hl
  have hown : s.vm.findClass RX6 = some m.cls := hown
  have hl : lv_has ls 3 [(0, .ref (ad 0)), (1, .int a1)] := hl
  have hk_f19 := hts (.fieldLink RX6 19 "ChanceNets" "now" "LChanceNets$Net;") (by decide +kernel)
  have hin_X6 : ∀ w ∈ u_ws RX6 TX6 13, w ∈ wsX6_rank := by decide +kernel
  have hk_f130 := hts (.fieldLink RX6 130 "ChanceNets$Net" "lines" "I") (by decide +kernel)
  have hin_X1 : ∀ w ∈ u_ws RX1 TX1 5, w ∈ wsX6_rank := by decide +kernel
  unfold f_X6_rank at hB
  refine lv_iload_n hx hb dX6_rank_0 rfl (lv_at hl 1 rfl) ?_
  refine lv_if_ge (tgt := 6) hx hb dX6_rank_1 (by decide) (fun c1 => ?_) (fun c1 => ?_)
  · have hB := it_t c1 hB
    refine lv_aload_n hx hb dX6_rank_6 rfl (lv_at hl 0 rfl) ?_
    refine r_get (v := .ref (ad 3)) (C := RX6) (T := TX6) (N := 13) hx hb hts hin_X6 hown hK hS (by decide) e_0 rfl 1 (by decide) hk_f19 rfl rfl dX6_rank_7 ?_
    obtain ⟨t2, ht2, hB⟩ := bi_at hB
    refine r_ViP ⟨hx, hb, hml, hown, hts⟩ (c_X1_hangs l dC dI ad cA σ 0 (by decide) t2 ht2) (cwV 0 hts gX6_rank_X1_hangs rfl rfl rfl (by decide +kernel) ⟨Nat.le_of_ble_eq_true rfl, Nat.le_of_ble_eq_true rfl⟩) hK hN hS (by decide) (e_net (k := 0) (by decide)) rfl rfl hl.1 rfl (Nat.le_of_ble_eq_true rfl) dX6_rank_10 ⟨Nat.le_refl _, Nat.le_refl _⟩ (fun H locs hS => ?_)
    refine lv_if_ne (tgt := 19) hx hb dX6_rank_13 (by decide) (fun c3 => ?_) (fun c3 => ?_)
    · have hB := it_f c3 hB
      refine lv_aload_n hx hb dX6_rank_19 rfl (lv_at hl 0 rfl) ?_
      obtain ⟨t4, ht4, hB⟩ := bi_at hB
      refine r_Vv ⟨hx, hb, hml, hown, hts⟩ (c_X6_countRests l dC dI ad cA σ t4 ht4) (cwV 0 hts gX6_rank_X6_countRests rfl rfl rfl (by decide +kernel) ⟨Nat.le_of_ble_eq_true rfl, Nat.le_of_ble_eq_true rfl⟩) hK hN hS (by decide) e_0 rfl rfl hl.1 rfl (Nat.le_of_ble_eq_true rfl) dX6_rank_20 ⟨Nat.le_refl _, Nat.le_refl _⟩ (fun H locs hS => ?_)
      refine lv_iconst (v := (0 : Int32)) hx hb dX6_rank_23 (by decide) ?_
      refine lv_istore_n (lv' := [(2, .int (0 : Int32)), (0, .ref (ad 0)), (1, .int a1)]) hx hb dX6_rank_24 rfl hl (by decide) rfl (fun ls hl => ?_)
      obtain ⟨t10, ht10, hB⟩ := bi_at hB
      refine wl_W (body := fun a => f_X6_rank_B25 a1 t4 a) (Hd := fun a : Int32 => ∀ (H : Heap) (locs : List Loc) (ls : Array Slot), ST dC dI ad cA s t4 H locs → lv_has ls 3 [(0, .ref (ad 0)), (1, .int a1), (2, .int a)] → W p l e (RM 6 132) s m args below meth c H locs 0 0 Q (F0 m 25 ls [])) (Ex := fun b : (Unit) ⊕ (Int32 × Sg) => Sum.elim (fun b : Unit => ∀ (H : Heap) (locs : List Loc) (ls : Array Slot), ST dC dI ad cA s t4 H locs → lv_has ls 3 [] → W p l e (RM 6 132) s m args below meth c H locs 0 0 Q (F0 m 53 ls [])) (fun v => some v = some z) b) ?_ FU _ t10 ht10 ?_ H locs ls hS (lv_sub hl [1, 2, 0] rfl)
      · intro a r25 hB hI25 hE25 H locs ls hS hl
        obtain ⟨x5, rfl⟩ : ∃ y, y = a := ⟨_, rfl⟩
        have hB : f_X6_rank_B25 a1 t4 x5 = some r25 := hB
        unfold f_X6_rank_B25 at hB
        have hS : ST dC dI ad cA s t4 H locs := hS
        have hl : lv_has ls 3 [(0, .ref (ad 0)), (1, .int a1), (2, .int x5)] := hl
        show W p l e (RM 6 132) s m args below meth c H locs 0 0 Q (F0 m 25 ls [])
        refine lv_iload_n hx hb dX6_rank_25 rfl (lv_at hl 2 rfl) ?_
        refine lv_aload_n hx hb dX6_rank_26 rfl (lv_at hl 0 rfl) ?_
        refine r_get (v := .ref (ad 3)) (C := RX6) (T := TX6) (N := 13) hx hb hts hin_X6 hown hK hS (by decide) e_0 rfl 1 (by decide) hk_f19 rfl rfl dX6_rank_27 ?_
        refine r_get (v := .int (gI t4 5)) (C := RX1) (T := TX1) (N := 5) hx hb hts hin_X1 hown hK hS (by decide) (e_net (k := 0) (by decide)) rfl 1 (by decide) hk_f130 rfl rfl dX6_rank_30 ?_
        refine lv_icmp_ge (tgt := 53) hx hb dX6_rank_33 (by decide) (fun c6 => ?_) (fun c6 => ?_)
        · have hB := it_t c6 hB
          exact hE25 _ (Option.some.inj hB).symm H locs ls hS (lv_sub hl [] rfl)
        · have hB := it_f c6 hB
          refine lv_aload_n hx hb dX6_rank_36 rfl (lv_at hl 0 rfl) ?_
          refine lv_iload_n hx hb dX6_rank_37 rfl (lv_at hl 2 rfl) ?_
          obtain ⟨t7, ht7, hB⟩ := bi_at hB
          refine r_ViP ⟨hx, hb, hml, hown, hts⟩ (c_X6_linesRankedAhead l dC dI ad cA t4 x5 t7 ht7) (cwV 1 hts gX6_rank_X6_linesRankedAhead rfl rfl rfl (by decide +kernel) ⟨Nat.le_of_ble_eq_true rfl, Nat.le_of_ble_eq_true rfl⟩) hK hN hS (by decide) e_0 rfl rfl hl.1 rfl (Nat.le_of_ble_eq_true rfl) dX6_rank_38 ⟨Nat.le_refl _, Nat.le_refl _⟩ (fun H locs hS => ?_)
          refine lv_iload_n hx hb dX6_rank_41 rfl (lv_at hl 1 rfl) ?_
          refine lv_icmp_ne (tgt := 47) hx hb dX6_rank_42 (by decide) (fun c8 => ?_) (fun c8 => ?_)
          · have hB := it_f c8 hB
            obtain ⟨x9, ex9⟩ : ∃ y : Int32, y = x5 + (1 : Int32) := ⟨_, rfl⟩
            have hB := vl_at ex9 hB
            refine lv_iinc (v := x9) (lv' := [(2, .int x9), (0, .ref (ad 0)), (1, .int a1)]) hx hb dX6_rank_47 hl (k := 2) rfl (by rw [ex9]; rfl) (by decide) rfl (fun ls hl => ?_)
            refine lv_goto (tgt := 25) hx hb dX6_rank_50 (by decide) ?_
            exact hI25 _ (Option.some.inj hB).symm H locs ls hS (lv_sub hl [1, 2, 0] rfl)
          · have hB := it_t c8 hB
            refine lv_iload_n hx hb dX6_rank_45 rfl (lv_at hl 2 rfl) ?_
            subst hQ
            exact r_iret hx hb hr hK hS (hE25 _ (Option.some.inj hB).symm) hlocks dX6_rank_46
      · rcases t10 with t10 | v
        · rw [Sum.elim_inl] at hB
          intro H locs ls hS hl
          have hS : ST dC dI ad cA s t4 H locs := hS
          have hl : lv_has ls 3 [] := hl
          show W p l e (RM 6 132) s m args below meth c H locs 0 0 Q (F0 m 53 ls [])
          refine lv_bipush (v := (-9 : Int32)) hx hb dX6_rank_53 (by decide) ?_
          subst hQ
          exact r_iret hx hb hr hK hS hB hlocks dX6_rank_55
        · exact hB
    · have hB := it_t c3 hB
      refine lv_bipush (v := (-2 : Int32)) hx hb dX6_rank_16 (by decide) ?_
      subst hQ
      exact r_iret hx hb hr hK hS hB hlocks dX6_rank_18
  · have hB := it_f c1 hB
    refine lv_iconst (v := (-1 : Int32)) hx hb dX6_rank_4 (by decide) ?_
    subst hQ
    exact r_iret hx hb hr hK hS hB hlocks dX6_rank_5
set_option maxHeartbeats 4000000 in
set_option maxRecDepth 100000 in
theorem c_X3_isPair (l : Launch) (dC : Nat → ClassId) (dI : Nat → Nat → Nat) (ad : Nat → Nat) (cA : Nat → ClassId) (σ : Sg) (a1 : Int32) (a2 : Int32) (z : Int32) (hB : f_X3_isPair σ a1 a2 = some z) : Ki l dC dI ad cA yX3_isPair wsX3_isPair 0 0 [.ref (ad 39), .int a1, .int a2] σ (z, σ) := by
  refine mk_i (cc := cX3_isPair) (maxL := 3) (ret := (some .boolean)) (by decide) rfl (Nat.le_of_ble_eq_true rfl) ?_
  intro p e s m args below meth c Q H locs ls ⟨hx, hb, hr, hml, hown, hts, hlocks, hK, hN⟩ hQ hS hl
  have hown : s.vm.findClass RX3 = some m.cls := hown
  have hl : lv_has ls 3 [(0, .ref (ad 39)), (1, .int a1), (2, .int a2)] := hl
  have hk_f22 := hts (.fieldLink RX3 22 "ChanceNets$Smaller" "nodes" "I") (by decide +kernel)
  have hin_X3 : ∀ w ∈ u_ws RX3 TX3 3, w ∈ wsX3_isPair := by decide +kernel
  unfold f_X3_isPair at hB
  refine lv_iload_n hx hb dX3_isPair_0 rfl (lv_at hl 1 rfl) ?_
  refine lv_if_lt (tgt := 28) hx hb dX3_isPair_1 (by decide) (fun c1 => ?_) (fun c1 => ?_)
  · have hB := it_t c1 hB
    refine lv_iconst (v := (0 : Int32)) hx hb dX3_isPair_28 (by decide) ?_
    subst hQ
    exact r_zret hx hb hr hK hS rfl (pz hB) hlocks dX3_isPair_29
  · have hB := it_f c1 hB
    refine lv_iload_n hx hb dX3_isPair_4 rfl (lv_at hl 1 rfl) ?_
    refine lv_aload_n hx hb dX3_isPair_5 rfl (lv_at hl 0 rfl) ?_
    refine r_get (v := .int (gI σ 16)) (C := RX3) (T := TX3) (N := 3) hx hb hts hin_X3 hown hK hS (by decide) e_39 rfl 2 (by decide) hk_f22 rfl rfl dX3_isPair_6 ?_
    refine lv_icmp_ge (tgt := 28) hx hb dX3_isPair_9 (by decide) (fun c2 => ?_) (fun c2 => ?_)
    · have hB := it_t c2 hB
      refine lv_iconst (v := (0 : Int32)) hx hb dX3_isPair_28 (by decide) ?_
      subst hQ
      exact r_zret hx hb hr hK hS rfl (pz hB) hlocks dX3_isPair_29
    · have hB := it_f c2 hB
      refine lv_iload_n hx hb dX3_isPair_12 rfl (lv_at hl 2 rfl) ?_
      refine lv_if_lt (tgt := 28) hx hb dX3_isPair_13 (by decide) (fun c3 => ?_) (fun c3 => ?_)
      · have hB := it_t c3 hB
        refine lv_iconst (v := (0 : Int32)) hx hb dX3_isPair_28 (by decide) ?_
        subst hQ
        exact r_zret hx hb hr hK hS rfl (pz hB) hlocks dX3_isPair_29
      · have hB := it_f c3 hB
        refine lv_iload_n hx hb dX3_isPair_16 rfl (lv_at hl 2 rfl) ?_
        refine lv_aload_n hx hb dX3_isPair_17 rfl (lv_at hl 0 rfl) ?_
        refine r_get (v := .int (gI σ 16)) (C := RX3) (T := TX3) (N := 3) hx hb hts hin_X3 hown hK hS (by decide) e_39 rfl 2 (by decide) hk_f22 rfl rfl dX3_isPair_18 ?_
        refine lv_icmp_ge (tgt := 28) hx hb dX3_isPair_21 (by decide) (fun c4 => ?_) (fun c4 => ?_)
        · have hB := it_t c4 hB
          refine lv_iconst (v := (0 : Int32)) hx hb dX3_isPair_28 (by decide) ?_
          subst hQ
          exact r_zret hx hb hr hK hS rfl (pz hB) hlocks dX3_isPair_29
        · have hB := it_f c4 hB
          refine lv_iconst (v := (1 : Int32)) hx hb dX3_isPair_24 (by decide) ?_
          refine lv_goto (tgt := 29) hx hb dX3_isPair_25 (by decide) ?_
          subst hQ
          exact r_zret hx hb hr hK hS rfl (pz hB) hlocks dX3_isPair_29
set_option maxHeartbeats 4000000 in
set_option maxRecDepth 100000 in
theorem c_X3_put (l : Launch) (dC : Nat → ClassId) (dI : Nat → Nat → Nat) (ad : Nat → Nat) (cA : Nat → ClassId) (σ : Sg) (a1 : Int32) (a2 : Int32) (a3 : Int64) (a4 : Int64) (z : Sg) (hB : f_X3_put σ a1 a2 a3 a4 = some z) : Kv l dC dI ad cA yX3_put wsX3_put 1 22 [.ref (ad 39), .int a1, .int a2, .long a3, .long a4] σ z := by
  refine mk_v (cc := cX3_put) (maxL := 7) (ret := none) (by decide) rfl (Nat.le_of_ble_eq_true rfl) ?_
  intro p e s m args below meth c Q H locs ls ⟨hx, hb, hr, hml, hown, hts, hlocks, hK, hN⟩ hQ hS hl
  have hown : s.vm.findClass RX3 = some m.cls := hown
  have hl : lv_has ls 7 [(0, .ref (ad 39)), (1, .int a1), (2, .int a2), (3, .long a3), (5, .long a4)] := hl
  have hk_f9 := hts (.fieldLink RX3 9 "ChanceNets$Smaller" "uppers" "[J") (by decide +kernel)
  have hin_X3 : ∀ w ∈ u_ws RX3 TX3 3, w ∈ wsX3_put := by decide +kernel
  have hk_f15 := hts (.fieldLink RX3 15 "ChanceNets$Smaller" "lowers" "[J") (by decide +kernel)
  unfold f_X3_put at hB
  refine lv_aload_n hx hb dX3_put_0 rfl (lv_at hl 0 rfl) ?_
  refine lv_iload_n hx hb dX3_put_1 rfl (lv_at hl 1 rfl) ?_
  refine lv_iload_n hx hb dX3_put_2 rfl (lv_at hl 2 rfl) ?_
  obtain ⟨t1, ht1, hB⟩ := bi_at hB
  refine r_ViP ⟨hx, hb, hml, hown, hts⟩ (c_X3_isPair l dC dI ad cA σ a1 a2 t1 ht1) (cwV 2 hts gX3_put_X3_isPair rfl rfl rfl (by decide +kernel) ⟨Nat.le_of_ble_eq_true rfl, Nat.le_of_ble_eq_true rfl⟩) hK hN hS (by decide) e_39 rfl rfl hl.1 rfl (Nat.le_of_ble_eq_true rfl) dX3_put_3 ⟨Nat.le_refl _, Nat.le_refl _⟩ (fun H locs hS => ?_)
  refine lv_if_eq (tgt := 59) hx hb dX3_put_6 (by decide) (fun c2 => ?_) (fun c2 => ?_)
  · have hB := it_t c2 hB
    subst hQ
    exact r_vret hx hb hr hK hS hB hlocks dX3_put_59
  · have hB := it_f c2 hB
    refine lv_aload_n hx hb dX3_put_9 rfl (lv_at hl 0 rfl) ?_
    refine r_get (v := .ref (ad 40)) (C := RX3) (T := TX3) (N := 3) hx hb hts hin_X3 hown hK hS (by decide) e_39 rfl 0 (by decide) hk_f9 rfl rfl dX3_put_10 ?_
    refine lv_iload_n hx hb dX3_put_13 rfl (lv_at hl 1 rfl) ?_
    refine lv_bipush (v := (6 : Int32)) hx hb dX3_put_14 (by decide) ?_
    refine lv_imul hx hb dX3_put_16 ?_
    refine lv_iload_n hx hb dX3_put_17 rfl (lv_at hl 2 rfl) ?_
    refine lv_iadd hx hb dX3_put_18 ?_
    refine lv_lload_n hx hb dX3_put_19 rfl (lv_at hl 3 rfl) ?_
    obtain ⟨h3, hB⟩ := gd_at hB
    refine r_last hx hb hK hS h3 dX3_put_20 (fun H locs hS => ?_)
    obtain ⟨σ4, eσ4⟩ : ∃ t : Sg, t = pJ σ 40 ((a1 * (6 : Int32)) + a2).toNatClampNeg a3 := ⟨_, rfl⟩
    rw [← eσ4] at hS
    have hB := vl_at eσ4 hB
    refine lv_aload_n hx hb dX3_put_21 rfl (lv_at hl 0 rfl) ?_
    refine r_get (v := .ref (ad 41)) (C := RX3) (T := TX3) (N := 3) hx hb hts hin_X3 hown hK hS (by decide) e_39 rfl 1 (by decide) hk_f15 rfl rfl dX3_put_22 ?_
    refine lv_iload_n hx hb dX3_put_25 rfl (lv_at hl 1 rfl) ?_
    refine lv_bipush (v := (6 : Int32)) hx hb dX3_put_26 (by decide) ?_
    refine lv_imul hx hb dX3_put_28 ?_
    refine lv_iload_n hx hb dX3_put_29 rfl (lv_at hl 2 rfl) ?_
    refine lv_iadd hx hb dX3_put_30 ?_
    refine lv_lload hx hb dX3_put_31 (lv_at hl 4 rfl) ?_
    obtain ⟨h5, hB⟩ := gd_at hB
    refine r_last hx hb hK hS h5 dX3_put_33 (fun H locs hS => ?_)
    obtain ⟨σ6, eσ6⟩ : ∃ t : Sg, t = pJ σ4 41 ((a1 * (6 : Int32)) + a2).toNatClampNeg a4 := ⟨_, rfl⟩
    rw [← eσ6] at hS
    have hB := vl_at eσ6 hB
    refine lv_aload_n hx hb dX3_put_34 rfl (lv_at hl 0 rfl) ?_
    refine r_get (v := .ref (ad 40)) (C := RX3) (T := TX3) (N := 3) hx hb hts hin_X3 hown hK hS (by decide) e_39 rfl 0 (by decide) hk_f9 rfl rfl dX3_put_35 ?_
    refine lv_iload_n hx hb dX3_put_38 rfl (lv_at hl 2 rfl) ?_
    refine lv_bipush (v := (6 : Int32)) hx hb dX3_put_39 (by decide) ?_
    refine lv_imul hx hb dX3_put_41 ?_
    refine lv_iload_n hx hb dX3_put_42 rfl (lv_at hl 1 rfl) ?_
    refine lv_iadd hx hb dX3_put_43 ?_
    refine lv_lload_n hx hb dX3_put_44 rfl (lv_at hl 3 rfl) ?_
    obtain ⟨h7, hB⟩ := gd_at hB
    refine r_last hx hb hK hS h7 dX3_put_45 (fun H locs hS => ?_)
    obtain ⟨σ8, eσ8⟩ : ∃ t : Sg, t = pJ σ6 40 ((a2 * (6 : Int32)) + a1).toNatClampNeg a3 := ⟨_, rfl⟩
    rw [← eσ8] at hS
    have hB := vl_at eσ8 hB
    refine lv_aload_n hx hb dX3_put_46 rfl (lv_at hl 0 rfl) ?_
    refine r_get (v := .ref (ad 41)) (C := RX3) (T := TX3) (N := 3) hx hb hts hin_X3 hown hK hS (by decide) e_39 rfl 1 (by decide) hk_f15 rfl rfl dX3_put_47 ?_
    refine lv_iload_n hx hb dX3_put_50 rfl (lv_at hl 2 rfl) ?_
    refine lv_bipush (v := (6 : Int32)) hx hb dX3_put_51 (by decide) ?_
    refine lv_imul hx hb dX3_put_53 ?_
    refine lv_iload_n hx hb dX3_put_54 rfl (lv_at hl 1 rfl) ?_
    refine lv_iadd hx hb dX3_put_55 ?_
    refine lv_lload hx hb dX3_put_56 (lv_at hl 4 rfl) ?_
    obtain ⟨h9, hB⟩ := gd_at hB
    refine r_last hx hb hK hS h9 dX3_put_58 (fun H locs hS => ?_)
    obtain ⟨σ10, eσ10⟩ : ∃ t : Sg, t = pJ σ8 41 ((a2 * (6 : Int32)) + a1).toNatClampNeg a4 := ⟨_, rfl⟩
    rw [← eσ10] at hS
    have hB := vl_at eσ10 hB
    subst hQ
    exact r_vret hx hb hr hK hS hB hlocks dX3_put_59
set_option maxHeartbeats 4000000 in
set_option maxRecDepth 100000 in
theorem c_X3_load (l : Launch) (dC : Nat → ClassId) (dI : Nat → Nat → Nat) (ad : Nat → Nat) (cA : Nat → ClassId) (σ : Sg) (kn : Nat) (hkn : kn < 5) (z : Sg) (hB : f_X3_load σ kn = some z) : Kv l dC dI ad cA yX3_load wsX3_load 2 48 [.ref (ad 39), .ref (ad (3 + 4 * kn))] σ z := by
  refine mk_v (cc := cX3_load) (maxL := 4) (ret := none) (by decide) rfl (Nat.le_of_ble_eq_true rfl) ?_
  intro p e s m args below meth c Q H locs ls ⟨hx, hb, hr, hml, hown, hts, hlocks, hK, hN⟩ hQ hS hl
  have hown : s.vm.findClass RX3 = some m.cls := hown
  have hl : lv_has ls 4 [(0, .ref (ad 39)), (1, .ref (ad (3 + 4 * kn)))] := hl
  have hk_f34 := hts (.fieldLink RX3 34 "ChanceNets$Net" "nodes" "I") (by decide +kernel)
  have hin_X1 : ∀ w ∈ u_ws RX1 TX1 5, w ∈ wsX3_load := by decide +kernel
  have hk_f22 := hts (.fieldLink RX3 22 "ChanceNets$Smaller" "nodes" "I") (by decide +kernel)
  have hin_X3 : ∀ w ∈ u_ws RX3 TX3 3, w ∈ wsX3_load := by decide +kernel
  unfold f_X3_load at hB
  refine lv_aload_n hx hb dX3_load_0 rfl (lv_at hl 0 rfl) ?_
  refine lv_aload_n hx hb dX3_load_1 rfl (lv_at hl 1 rfl) ?_
  refine r_get (v := .int (gI σ (4 + 2 * kn))) (C := RX1) (T := TX1) (N := 5) hx hb hts hin_X1 hown hK hS (by omega) (e_net (k := kn) hkn) rfl 0 (by decide) hk_f34 rfl rfl dX3_load_2 ?_
  refine lv_topi (fun x1 ex1 => ?_)
  have hB := vl_at ex1 hB
  refine r_put (σ' := pI σ 16 x1) (v := .int x1) (C := RX3) (T := TX3) (N := 3) hx hb hts hin_X3 tyX3 tyX3_ok nmX3 hown hK hS (by decide) e_39 rfl 2 (by decide) hk_f22 rfl rfl rfl rfl (Nat.le_of_ble_eq_true rfl) (fun d hd h => eo d hd h) rfl dX3_load_5 (fun H locs hS => ?_)
  obtain ⟨σ2, eσ2⟩ : ∃ t : Sg, t = pI σ 16 x1 := ⟨_, rfl⟩
  rw [← eσ2] at hS
  have hB := vl_at eσ2 hB
  refine lv_iconst (v := (0 : Int32)) hx hb dX3_load_8 (by decide) ?_
  refine lv_istore_n (lv' := [(2, .int (0 : Int32)), (0, .ref (ad 39)), (1, .ref (ad (3 + 4 * kn)))]) hx hb dX3_load_9 rfl hl (by decide) rfl (fun ls hl => ?_)
  obtain ⟨t14, ht14, hB⟩ := bi_at hB
  refine wl_W (body := fun a => f_X3_load_B10 kn a.1 a.2) (Hd := fun a : Int32 × Sg => ∀ (H : Heap) (locs : List Loc) (ls : Array Slot), ST dC dI ad cA s a.2 H locs → lv_has ls 4 [(0, .ref (ad 39)), (1, .ref (ad (3 + 4 * kn))), (2, .int a.1)] → W p l e (RM 2 48) s m args below meth c H locs 0 0 Q (F0 m 10 ls [])) (Ex := fun b : Sg => ∀ (H : Heap) (locs : List Loc) (ls : Array Slot), ST dC dI ad cA s b H locs → lv_has ls 4 [] → W p l e (RM 2 48) s m args below meth c H locs 0 0 Q (F0 m 54 ls [])) ?_ FU _ t14 ht14 ?_ H locs ls hS (lv_sub hl [1, 2, 0] rfl)
  · intro a r10 hB hI10 hE10 H locs ls hS hl
    obtain ⟨x3, σ4⟩ := a
    have hB : f_X3_load_B10 kn x3 σ4 = some r10 := hB
    unfold f_X3_load_B10 at hB
    have hS : ST dC dI ad cA s σ4 H locs := hS
    have hl : lv_has ls 4 [(0, .ref (ad 39)), (1, .ref (ad (3 + 4 * kn))), (2, .int x3)] := hl
    show W p l e (RM 2 48) s m args below meth c H locs 0 0 Q (F0 m 10 ls [])
    refine lv_iload_n hx hb dX3_load_10 rfl (lv_at hl 2 rfl) ?_
    refine lv_aload_n hx hb dX3_load_11 rfl (lv_at hl 0 rfl) ?_
    refine r_get (v := .int (gI σ4 16)) (C := RX3) (T := TX3) (N := 3) hx hb hts hin_X3 hown hK hS (by decide) e_39 rfl 2 (by decide) hk_f22 rfl rfl dX3_load_12 ?_
    refine lv_icmp_ge (tgt := 54) hx hb dX3_load_15 (by decide) (fun c5 => ?_) (fun c5 => ?_)
    · have hB := it_t c5 hB
      exact hE10 _ (Option.some.inj hB).symm H locs ls hS (lv_sub hl [] rfl)
    · have hB := it_f c5 hB
      refine lv_iconst (v := (0 : Int32)) hx hb dX3_load_18 (by decide) ?_
      refine lv_istore_n (lv' := [(3, .int (0 : Int32)), (0, .ref (ad 39)), (1, .ref (ad (3 + 4 * kn))), (2, .int x3)]) hx hb dX3_load_19 rfl hl (by decide) rfl (fun ls hl => ?_)
      obtain ⟨t12, ht12, hB⟩ := bi_at hB
      refine wl_W (body := fun a => f_X3_load_B20 kn x3 a.1 a.2) (Hd := fun a : Int32 × Sg => ∀ (H : Heap) (locs : List Loc) (ls : Array Slot), ST dC dI ad cA s a.2 H locs → lv_has ls 4 [(0, .ref (ad 39)), (1, .ref (ad (3 + 4 * kn))), (2, .int x3), (3, .int a.1)] → W p l e (RM 2 48) s m args below meth c H locs 0 0 Q (F0 m 20 ls [])) (Ex := fun b : Sg => ∀ (H : Heap) (locs : List Loc) (ls : Array Slot), ST dC dI ad cA s b H locs → lv_has ls 4 [(0, .ref (ad 39)), (1, .ref (ad (3 + 4 * kn))), (2, .int x3)] → W p l e (RM 2 48) s m args below meth c H locs 0 0 Q (F0 m 48 ls [])) ?_ FU _ t12 ht12 ?_ H locs ls hS (lv_sub hl [1, 2, 3, 0] rfl)
      · intro a r20 hB hI20 hE20 H locs ls hS hl
        obtain ⟨x6, σ7⟩ := a
        have hB : f_X3_load_B20 kn x3 x6 σ7 = some r20 := hB
        unfold f_X3_load_B20 at hB
        have hS : ST dC dI ad cA s σ7 H locs := hS
        have hl : lv_has ls 4 [(0, .ref (ad 39)), (1, .ref (ad (3 + 4 * kn))), (2, .int x3), (3, .int x6)] := hl
        show W p l e (RM 2 48) s m args below meth c H locs 0 0 Q (F0 m 20 ls [])
        refine lv_iload_n hx hb dX3_load_20 rfl (lv_at hl 3 rfl) ?_
        refine lv_aload_n hx hb dX3_load_21 rfl (lv_at hl 0 rfl) ?_
        refine r_get (v := .int (gI σ7 16)) (C := RX3) (T := TX3) (N := 3) hx hb hts hin_X3 hown hK hS (by decide) e_39 rfl 2 (by decide) hk_f22 rfl rfl dX3_load_22 ?_
        refine lv_icmp_ge (tgt := 48) hx hb dX3_load_25 (by decide) (fun c8 => ?_) (fun c8 => ?_)
        · have hB := it_t c8 hB
          exact hE20 _ (Option.some.inj hB).symm H locs ls hS (lv_sub hl [0, 1, 2] rfl)
        · have hB := it_f c8 hB
          refine lv_aload_n hx hb dX3_load_28 rfl (lv_at hl 0 rfl) ?_
          refine lv_iload_n hx hb dX3_load_29 rfl (lv_at hl 2 rfl) ?_
          refine lv_iload_n hx hb dX3_load_30 rfl (lv_at hl 3 rfl) ?_
          refine lv_lconst (v := (1 : Int64)) hx hb dX3_load_31 (by decide) ?_
          refine lv_aload_n hx hb dX3_load_32 rfl (lv_at hl 1 rfl) ?_
          refine lv_iload_n hx hb dX3_load_33 rfl (lv_at hl 2 rfl) ?_
          refine lv_iload_n hx hb dX3_load_34 rfl (lv_at hl 3 rfl) ?_
          obtain ⟨t9, ht9, hB⟩ := bi_at hB
          refine r_ViP ⟨hx, hb, hml, hown, hts⟩ (c_X1_widthAt l dC dI ad cA σ7 kn hkn x3 x6 t9 ht9) (cwV 2 hts gX3_load_X1_widthAt rfl rfl rfl (by decide +kernel) ⟨Nat.le_of_ble_eq_true rfl, Nat.le_of_ble_eq_true rfl⟩) hK hN hS (by omega) (e_net (k := kn) hkn) rfl rfl hl.1 rfl (Nat.le_of_ble_eq_true rfl) dX3_load_35 ⟨Nat.le_refl _, Nat.le_refl _⟩ (fun H locs hS => ?_)
          refine lv_i2l hx hb dX3_load_38 rfl ?_
          obtain ⟨t10, ht10, hB⟩ := bi_at hB
          refine r_Vv ⟨hx, hb, hml, hown, hts⟩ (c_X3_put l dC dI ad cA σ7 x3 x6 (1 : Int64) t9.toInt64 t10 ht10) (cwV 4 hts gX3_load_X3_put rfl rfl rfl (by decide +kernel) ⟨Nat.le_of_ble_eq_true rfl, Nat.le_of_ble_eq_true rfl⟩) hK hN hS (by decide) e_39 rfl rfl hl.1 rfl (Nat.le_of_ble_eq_true rfl) dX3_load_39 ⟨Nat.le_refl _, Nat.le_refl _⟩ (fun H locs hS => ?_)
          obtain ⟨x11, ex11⟩ : ∃ y : Int32, y = x6 + (1 : Int32) := ⟨_, rfl⟩
          have hB := vl_at ex11 hB
          refine lv_iinc (v := x11) (lv' := [(3, .int x11), (0, .ref (ad 39)), (1, .ref (ad (3 + 4 * kn))), (2, .int x3)]) hx hb dX3_load_42 hl (k := 3) rfl (by rw [ex11]; rfl) (by decide) rfl (fun ls hl => ?_)
          refine lv_goto (tgt := 20) hx hb dX3_load_45 (by decide) ?_
          exact hI20 _ (Option.some.inj hB).symm H locs ls hS (lv_sub hl [1, 2, 3, 0] rfl)
      · skip
        intro H locs ls hS hl
        have hS : ST dC dI ad cA s t12 H locs := hS
        have hl : lv_has ls 4 [(0, .ref (ad 39)), (1, .ref (ad (3 + 4 * kn))), (2, .int x3)] := hl
        show W p l e (RM 2 48) s m args below meth c H locs 0 0 Q (F0 m 48 ls [])
        obtain ⟨x13, ex13⟩ : ∃ y : Int32, y = x3 + (1 : Int32) := ⟨_, rfl⟩
        have hB := vl_at ex13 hB
        refine lv_iinc (v := x13) (lv' := [(2, .int x13), (0, .ref (ad 39)), (1, .ref (ad (3 + 4 * kn)))]) hx hb dX3_load_48 hl (k := 2) rfl (by rw [ex13]; rfl) (by decide) rfl (fun ls hl => ?_)
        refine lv_goto (tgt := 10) hx hb dX3_load_51 (by decide) ?_
        exact hI10 _ (Option.some.inj hB).symm H locs ls hS (lv_sub hl [1, 2, 0] rfl)
  · skip
    intro H locs ls hS hl
    have hS : ST dC dI ad cA s t14 H locs := hS
    have hl : lv_has ls 4 [] := hl
    show W p l e (RM 2 48) s m args below meth c H locs 0 0 Q (F0 m 54 ls [])
    subst hQ
    exact r_vret hx hb hr hK hS hB hlocks dX3_load_54
set_option maxHeartbeats 4000000 in
set_option maxRecDepth 100000 in
theorem c_X3_lowerAt (l : Launch) (dC : Nat → ClassId) (dI : Nat → Nat → Nat) (ad : Nat → Nat) (cA : Nat → ClassId) (σ : Sg) (a1 : Int32) (a2 : Int32) (z : Int64) (hB : f_X3_lowerAt σ a1 a2 = some z) : Kl l dC dI ad cA yX3_lowerAt wsX3_lowerAt 1 22 [.ref (ad 39), .int a1, .int a2] σ (z, σ) := by
  refine mk_l (cc := cX3_lowerAt) (maxL := 3) (ret := (some .long)) (by decide) rfl (Nat.le_of_ble_eq_true rfl) ?_
  intro p e s m args below meth c Q H locs ls ⟨hx, hb, hr, hml, hown, hts, hlocks, hK, hN⟩ hQ hS hl
  have hown : s.vm.findClass RX3 = some m.cls := hown
  have hl : lv_has ls 3 [(0, .ref (ad 39)), (1, .int a1), (2, .int a2)] := hl
  have hk_f15 := hts (.fieldLink RX3 15 "ChanceNets$Smaller" "lowers" "[J") (by decide +kernel)
  have hin_X3 : ∀ w ∈ u_ws RX3 TX3 3, w ∈ wsX3_lowerAt := by decide +kernel
  unfold f_X3_lowerAt at hB
  refine lv_aload_n hx hb dX3_lowerAt_0 rfl (lv_at hl 0 rfl) ?_
  refine lv_iload_n hx hb dX3_lowerAt_1 rfl (lv_at hl 1 rfl) ?_
  refine lv_iload_n hx hb dX3_lowerAt_2 rfl (lv_at hl 2 rfl) ?_
  obtain ⟨t1, ht1, hB⟩ := bi_at hB
  refine r_ViP ⟨hx, hb, hml, hown, hts⟩ (c_X3_isPair l dC dI ad cA σ a1 a2 t1 ht1) (cwV 2 hts gX3_lowerAt_X3_isPair rfl rfl rfl (by decide +kernel) ⟨Nat.le_of_ble_eq_true rfl, Nat.le_of_ble_eq_true rfl⟩) hK hN hS (by decide) e_39 rfl rfl hl.1 rfl (Nat.le_of_ble_eq_true rfl) dX3_lowerAt_3 ⟨Nat.le_refl _, Nat.le_refl _⟩ (fun H locs hS => ?_)
  refine lv_if_eq (tgt := 23) hx hb dX3_lowerAt_6 (by decide) (fun c2 => ?_) (fun c2 => ?_)
  · have hB := it_t c2 hB
    refine lv_lconst (v := (0 : Int64)) hx hb dX3_lowerAt_23 (by decide) ?_
    subst hQ
    exact r_lret hx hb hr hK hS (pz hB) hlocks dX3_lowerAt_24
  · have hB := it_f c2 hB
    refine lv_aload_n hx hb dX3_lowerAt_9 rfl (lv_at hl 0 rfl) ?_
    refine r_get (v := .ref (ad 41)) (C := RX3) (T := TX3) (N := 3) hx hb hts hin_X3 hown hK hS (by decide) e_39 rfl 1 (by decide) hk_f15 rfl rfl dX3_lowerAt_10 ?_
    refine lv_iload_n hx hb dX3_lowerAt_13 rfl (lv_at hl 1 rfl) ?_
    refine lv_bipush (v := (6 : Int32)) hx hb dX3_lowerAt_14 (by decide) ?_
    refine lv_imul hx hb dX3_lowerAt_16 ?_
    refine lv_iload_n hx hb dX3_lowerAt_17 rfl (lv_at hl 2 rfl) ?_
    refine lv_iadd hx hb dX3_lowerAt_18 ?_
    obtain ⟨h3, hB⟩ := gd_at hB
    refine r_lald hx hb hK hS h3 dX3_lowerAt_19 ?_
    refine lv_goto (tgt := 24) hx hb dX3_lowerAt_20 (by decide) ?_
    subst hQ
    exact r_lret hx hb hr hK hS (pz hB) hlocks dX3_lowerAt_24
set_option maxHeartbeats 4000000 in
set_option maxRecDepth 100000 in
theorem c_X3_joined (l : Launch) (dC : Nat → ClassId) (dI : Nat → Nat → Nat) (ad : Nat → Nat) (cA : Nat → ClassId) (σ : Sg) (a1 : Int32) (a2 : Int32) (z : Int32) (hB : f_X3_joined σ a1 a2 = some z) : Ki l dC dI ad cA yX3_joined wsX3_joined 2 44 [.ref (ad 39), .int a1, .int a2] σ (z, σ) := by
  refine mk_i (cc := cX3_joined) (maxL := 3) (ret := (some .boolean)) (by decide) rfl (Nat.le_of_ble_eq_true rfl) ?_
  intro p e s m args below meth c Q H locs ls ⟨hx, hb, hr, hml, hown, hts, hlocks, hK, hN⟩ hQ hS hl
  have hown : s.vm.findClass RX3 = some m.cls := hown
  have hl : lv_has ls 3 [(0, .ref (ad 39)), (1, .int a1), (2, .int a2)] := hl
  unfold f_X3_joined at hB
  refine lv_aload_n hx hb dX3_joined_0 rfl (lv_at hl 0 rfl) ?_
  refine lv_iload_n hx hb dX3_joined_1 rfl (lv_at hl 1 rfl) ?_
  refine lv_iload_n hx hb dX3_joined_2 rfl (lv_at hl 2 rfl) ?_
  obtain ⟨t1, ht1, hB⟩ := bi_at hB
  refine r_VlP ⟨hx, hb, hml, hown, hts⟩ (c_X3_lowerAt l dC dI ad cA σ a1 a2 t1 ht1) (cwV 2 hts gX3_joined_X3_lowerAt rfl rfl rfl (by decide +kernel) ⟨Nat.le_of_ble_eq_true rfl, Nat.le_of_ble_eq_true rfl⟩) hK hN hS (by decide) e_39 rfl rfl hl.1 rfl (Nat.le_of_ble_eq_true rfl) dX3_joined_3 ⟨Nat.le_refl _, Nat.le_refl _⟩ (fun H locs hS => ?_)
  refine lv_lconst (v := (0 : Int64)) hx hb dX3_joined_6 (by decide) ?_
  refine W.lcmp hx hb dX3_joined_7 ?_
  refine lv_if_eq (tgt := 15) hx hb dX3_joined_8 (by decide) (fun c2 => ?_) (fun c2 => ?_)
  · have hB := it_t ((lg_cmp_eq _ _).mp c2) hB
    refine lv_iconst (v := (0 : Int32)) hx hb dX3_joined_15 (by decide) ?_
    subst hQ
    exact r_zret hx hb hr hK hS rfl (pz hB) hlocks dX3_joined_16
  · have hB := it_f (fun q => c2 ((lg_cmp_eq _ _).mpr q)) hB
    refine lv_iconst (v := (1 : Int32)) hx hb dX3_joined_11 (by decide) ?_
    refine lv_goto (tgt := 16) hx hb dX3_joined_12 (by decide) ?_
    subst hQ
    exact r_zret hx hb hr hK hS rfl (pz hB) hlocks dX3_joined_16
set_option maxHeartbeats 4000000 in
set_option maxRecDepth 100000 in
theorem c_X3_linesAt (l : Launch) (dC : Nat → ClassId) (dI : Nat → Nat → Nat) (ad : Nat → Nat) (cA : Nat → ClassId) (σ : Sg) (a1 : Int32) (z : Int32) (hB : f_X3_linesAt σ a1 = some z) : Ki l dC dI ad cA yX3_linesAt wsX3_linesAt 3 66 [.ref (ad 39), .int a1] σ (z, σ) := by
  refine mk_i (cc := cX3_linesAt) (maxL := 4) (ret := (some .int)) (by decide) rfl (Nat.le_of_ble_eq_true rfl) ?_
  intro p e s m args below meth c Q H locs ls ⟨hx, hb, hr, hml, hown, hts, hlocks, hK, hN⟩ hQ hS hl
  have hown : s.vm.findClass RX3 = some m.cls := hown
  have hl : lv_has ls 4 [(0, .ref (ad 39)), (1, .int a1)] := hl
  have hk_f22 := hts (.fieldLink RX3 22 "ChanceNets$Smaller" "nodes" "I") (by decide +kernel)
  have hin_X3 : ∀ w ∈ u_ws RX3 TX3 3, w ∈ wsX3_linesAt := by decide +kernel
  unfold f_X3_linesAt at hB
  refine lv_iconst (v := (0 : Int32)) hx hb dX3_linesAt_0 (by decide) ?_
  refine lv_istore_n (lv' := [(2, .int (0 : Int32)), (0, .ref (ad 39)), (1, .int a1)]) hx hb dX3_linesAt_1 rfl hl (by decide) rfl (fun ls hl => ?_)
  refine lv_iconst (v := (0 : Int32)) hx hb dX3_linesAt_2 (by decide) ?_
  refine lv_istore_n (lv' := [(3, .int (0 : Int32)), (2, .int (0 : Int32)), (0, .ref (ad 39)), (1, .int a1)]) hx hb dX3_linesAt_3 rfl hl (by decide) rfl (fun ls hl => ?_)
  obtain ⟨t9, ht9, hB⟩ := bi_at hB
  refine wl_W (body := fun a => f_X3_linesAt_B4 σ a1 a.1 a.2) (Hd := fun a : Int32 × Int32 => ∀ (H : Heap) (locs : List Loc) (ls : Array Slot), ST dC dI ad cA s σ H locs → lv_has ls 4 [(0, .ref (ad 39)), (1, .int a1), (2, .int a.1), (3, .int a.2)] → W p l e (RM 3 66) s m args below meth c H locs 0 0 Q (F0 m 4 ls [])) (Ex := fun b : Int32 => ∀ (H : Heap) (locs : List Loc) (ls : Array Slot), ST dC dI ad cA s σ H locs → lv_has ls 4 [(2, .int b)] → W p l e (RM 3 66) s m args below meth c H locs 0 0 Q (F0 m 30 ls [])) ?_ FU _ t9 ht9 ?_ H locs ls hS (lv_sub hl [2, 3, 1, 0] rfl)
  · intro a r4 hB hI4 hE4 H locs ls hS hl
    obtain ⟨x1, x2⟩ := a
    have hB : f_X3_linesAt_B4 σ a1 x1 x2 = some r4 := hB
    unfold f_X3_linesAt_B4 at hB
    have hS : ST dC dI ad cA s σ H locs := hS
    have hl : lv_has ls 4 [(0, .ref (ad 39)), (1, .int a1), (2, .int x1), (3, .int x2)] := hl
    show W p l e (RM 3 66) s m args below meth c H locs 0 0 Q (F0 m 4 ls [])
    refine lv_iload_n hx hb dX3_linesAt_4 rfl (lv_at hl 3 rfl) ?_
    refine lv_aload_n hx hb dX3_linesAt_5 rfl (lv_at hl 0 rfl) ?_
    refine r_get (v := .int (gI σ 16)) (C := RX3) (T := TX3) (N := 3) hx hb hts hin_X3 hown hK hS (by decide) e_39 rfl 2 (by decide) hk_f22 rfl rfl dX3_linesAt_6 ?_
    refine lv_icmp_ge (tgt := 30) hx hb dX3_linesAt_9 (by decide) (fun c3 => ?_) (fun c3 => ?_)
    · have hB := it_t c3 hB
      exact hE4 _ (Option.some.inj hB).symm H locs ls hS (lv_sub hl [2] rfl)
    · have hB := it_f c3 hB
      refine lv_aload_n hx hb dX3_linesAt_12 rfl (lv_at hl 0 rfl) ?_
      refine lv_iload_n hx hb dX3_linesAt_13 rfl (lv_at hl 1 rfl) ?_
      refine lv_iload_n hx hb dX3_linesAt_14 rfl (lv_at hl 3 rfl) ?_
      obtain ⟨t4, ht4, hB⟩ := bi_at hB
      refine r_ViP ⟨hx, hb, hml, hown, hts⟩ (c_X3_joined l dC dI ad cA σ a1 x2 t4 ht4) (cwV 2 hts gX3_linesAt_X3_joined rfl rfl rfl (by decide +kernel) ⟨Nat.le_of_ble_eq_true rfl, Nat.le_of_ble_eq_true rfl⟩) hK hN hS (by decide) e_39 rfl rfl hl.1 rfl (Nat.le_of_ble_eq_true rfl) dX3_linesAt_15 ⟨Nat.le_refl _, Nat.le_refl _⟩ (fun H locs hS => ?_)
      refine lv_if_eq (tgt := 24) hx hb dX3_linesAt_18 (by decide) (fun c5 => ?_) (fun c5 => ?_)
      · have hB := it_t c5 hB
        obtain ⟨x6, ex6⟩ : ∃ y : Int32, y = x2 + (1 : Int32) := ⟨_, rfl⟩
        have hB := vl_at ex6 hB
        refine lv_iinc (v := x6) (lv' := [(3, .int x6), (0, .ref (ad 39)), (1, .int a1), (2, .int x1)]) hx hb dX3_linesAt_24 hl (k := 3) rfl (by rw [ex6]; rfl) (by decide) rfl (fun ls hl => ?_)
        refine lv_goto (tgt := 4) hx hb dX3_linesAt_27 (by decide) ?_
        exact hI4 _ (Option.some.inj hB).symm H locs ls hS (lv_sub hl [1, 2, 3, 0] rfl)
      · have hB := it_f c5 hB
        obtain ⟨x7, ex7⟩ : ∃ y : Int32, y = x1 + (1 : Int32) := ⟨_, rfl⟩
        have hB := vl_at ex7 hB
        refine lv_iinc (v := x7) (lv' := [(2, .int x7), (0, .ref (ad 39)), (1, .int a1), (3, .int x2)]) hx hb dX3_linesAt_21 hl (k := 2) rfl (by rw [ex7]; rfl) (by decide) rfl (fun ls hl => ?_)
        obtain ⟨x8, ex8⟩ : ∃ y : Int32, y = x2 + (1 : Int32) := ⟨_, rfl⟩
        have hB := vl_at ex8 hB
        refine lv_iinc (v := x8) (lv' := [(3, .int x8), (2, .int x7), (0, .ref (ad 39)), (1, .int a1)]) hx hb dX3_linesAt_24 hl (k := 3) rfl (by rw [ex8]; rfl) (by decide) rfl (fun ls hl => ?_)
        refine lv_goto (tgt := 4) hx hb dX3_linesAt_27 (by decide) ?_
        exact hI4 _ (Option.some.inj hB).symm H locs ls hS (lv_sub hl [2, 3, 1, 0] rfl)
  · skip
    intro H locs ls hS hl
    have hS : ST dC dI ad cA s σ H locs := hS
    have hl : lv_has ls 4 [(2, .int t9)] := hl
    show W p l e (RM 3 66) s m args below meth c H locs 0 0 Q (F0 m 30 ls [])
    refine lv_iload_n hx hb dX3_linesAt_30 rfl (lv_at hl 0 rfl) ?_
    subst hQ
    exact r_iret hx hb hr hK hS (pz hB) hlocks dX3_linesAt_31
set_option maxHeartbeats 4000000 in
set_option maxRecDepth 100000 in
theorem c_X3_lowestToGo (l : Launch) (dC : Nat → ClassId) (dI : Nat → Nat → Nat) (ad : Nat → Nat) (cA : Nat → ClassId) (σ : Sg) (a1 : Int32) (a2 : Int32) (z : Int32) (hB : f_X3_lowestToGo σ a1 a2 = some z) : Ki l dC dI ad cA yX3_lowestToGo wsX3_lowestToGo 4 89 [.ref (ad 39), .int a1, .int a2] σ (z, σ) := by
  refine mk_i (cc := cX3_lowestToGo) (maxL := 5) (ret := (some .int)) (by decide) rfl (Nat.le_of_ble_eq_true rfl) ?_
  intro p e s m args below meth c Q H locs ls ⟨hx, hb, hr, hml, hown, hts, hlocks, hK, hN⟩ hQ hS hl
  have hown : s.vm.findClass RX3 = some m.cls := hown
  have hl : lv_has ls 5 [(0, .ref (ad 39)), (1, .int a1), (2, .int a2)] := hl
  have hk_f22 := hts (.fieldLink RX3 22 "ChanceNets$Smaller" "nodes" "I") (by decide +kernel)
  have hin_X3 : ∀ w ∈ u_ws RX3 TX3 3, w ∈ wsX3_lowestToGo := by decide +kernel
  unfold f_X3_lowestToGo at hB
  refine lv_iconst (v := (0 : Int32)) hx hb dX3_lowestToGo_0 (by decide) ?_
  refine lv_istore_n (lv' := [(3, .int (0 : Int32)), (0, .ref (ad 39)), (1, .int a1), (2, .int a2)]) hx hb dX3_lowestToGo_1 rfl hl (by decide) rfl (fun ls hl => ?_)
  obtain ⟨t11, ht11, hB⟩ := bi_at hB
  refine wl_W (body := fun a => f_X3_lowestToGo_B2 σ a1 a2 a) (Hd := fun a : Int32 => ∀ (H : Heap) (locs : List Loc) (ls : Array Slot), ST dC dI ad cA s σ H locs → lv_has ls 5 [(0, .ref (ad 39)), (1, .int a1), (2, .int a2), (3, .int a)] → W p l e (RM 4 89) s m args below meth c H locs 0 0 Q (F0 m 2 ls [])) (Ex := fun b : (Unit) ⊕ (Int32) => Sum.elim (fun b : Unit => ∀ (H : Heap) (locs : List Loc) (ls : Array Slot), ST dC dI ad cA s σ H locs → lv_has ls 5 [] → W p l e (RM 4 89) s m args below meth c H locs 0 0 Q (F0 m 47 ls [])) (fun v => some v = some z) b) ?_ FU _ t11 ht11 ?_ H locs ls hS (lv_sub hl [1, 2, 3, 0] rfl)
  · intro a r2 hB hI2 hE2 H locs ls hS hl
    obtain ⟨x1, rfl⟩ : ∃ y, y = a := ⟨_, rfl⟩
    have hB : f_X3_lowestToGo_B2 σ a1 a2 x1 = some r2 := hB
    unfold f_X3_lowestToGo_B2 at hB
    have hS : ST dC dI ad cA s σ H locs := hS
    have hl : lv_has ls 5 [(0, .ref (ad 39)), (1, .int a1), (2, .int a2), (3, .int x1)] := hl
    show W p l e (RM 4 89) s m args below meth c H locs 0 0 Q (F0 m 2 ls [])
    refine lv_iload_n hx hb dX3_lowestToGo_2 rfl (lv_at hl 3 rfl) ?_
    refine lv_aload_n hx hb dX3_lowestToGo_3 rfl (lv_at hl 0 rfl) ?_
    refine r_get (v := .int (gI σ 16)) (C := RX3) (T := TX3) (N := 3) hx hb hts hin_X3 hown hK hS (by decide) e_39 rfl 2 (by decide) hk_f22 rfl rfl dX3_lowestToGo_4 ?_
    refine lv_icmp_ge (tgt := 47) hx hb dX3_lowestToGo_7 (by decide) (fun c2 => ?_) (fun c2 => ?_)
    · have hB := it_t c2 hB
      exact hE2 _ (Option.some.inj hB).symm H locs ls hS (lv_sub hl [] rfl)
    · have hB := it_f c2 hB
      refine lv_aload_n hx hb dX3_lowestToGo_10 rfl (lv_at hl 0 rfl) ?_
      refine lv_iload_n hx hb dX3_lowestToGo_11 rfl (lv_at hl 3 rfl) ?_
      obtain ⟨t3, ht3, hB⟩ := bi_at hB
      refine r_ViP ⟨hx, hb, hml, hown, hts⟩ (c_X3_linesAt l dC dI ad cA σ x1 t3 ht3) (cwV 1 hts gX3_lowestToGo_X3_linesAt rfl rfl rfl (by decide +kernel) ⟨Nat.le_of_ble_eq_true rfl, Nat.le_of_ble_eq_true rfl⟩) hK hN hS (by decide) e_39 rfl rfl hl.1 rfl (Nat.le_of_ble_eq_true rfl) dX3_lowestToGo_12 ⟨Nat.le_refl _, Nat.le_refl _⟩ (fun H locs hS => ?_)
      refine lv_istore (lv' := [(4, .int t3), (0, .ref (ad 39)), (1, .int a1), (2, .int a2), (3, .int x1)]) hx hb dX3_lowestToGo_15 hl (by decide) rfl (fun ls hl => ?_)
      refine lv_iload_n hx hb dX3_lowestToGo_17 rfl (lv_at hl 4 rfl) ?_
      refine lv_iload_n hx hb dX3_lowestToGo_18 rfl (lv_at hl 2 rfl) ?_
      refine lv_icmp_eq (tgt := 41) hx hb dX3_lowestToGo_19 (by decide) (fun c4 => ?_) (fun c4 => ?_)
      · have hB := it_t c4 hB
        obtain ⟨x5, ex5⟩ : ∃ y : Int32, y = x1 + (1 : Int32) := ⟨_, rfl⟩
        have hB := vl_at ex5 hB
        refine lv_iinc (v := x5) (lv' := [(3, .int x5), (4, .int t3), (0, .ref (ad 39)), (1, .int a1), (2, .int a2)]) hx hb dX3_lowestToGo_41 hl (k := 4) rfl (by rw [ex5]; rfl) (by decide) rfl (fun ls hl => ?_)
        refine lv_goto (tgt := 2) hx hb dX3_lowestToGo_44 (by decide) ?_
        exact hI2 _ (Option.some.inj hB).symm H locs ls hS (lv_sub hl [2, 3, 4, 0] rfl)
      · have hB := it_f c4 hB
        refine lv_iload_n hx hb dX3_lowestToGo_22 rfl (lv_at hl 4 rfl) ?_
        refine lv_iload_n hx hb dX3_lowestToGo_23 rfl (lv_at hl 3 rfl) ?_
        refine lv_icmp_eq (tgt := 41) hx hb dX3_lowestToGo_24 (by decide) (fun c6 => ?_) (fun c6 => ?_)
        · have hB := it_t c6 hB
          obtain ⟨x7, ex7⟩ : ∃ y : Int32, y = x1 + (1 : Int32) := ⟨_, rfl⟩
          have hB := vl_at ex7 hB
          refine lv_iinc (v := x7) (lv' := [(3, .int x7), (4, .int t3), (0, .ref (ad 39)), (1, .int a1), (2, .int a2)]) hx hb dX3_lowestToGo_41 hl (k := 4) rfl (by rw [ex7]; rfl) (by decide) rfl (fun ls hl => ?_)
          refine lv_goto (tgt := 2) hx hb dX3_lowestToGo_44 (by decide) ?_
          exact hI2 _ (Option.some.inj hB).symm H locs ls hS (lv_sub hl [2, 3, 4, 0] rfl)
        · have hB := it_f c6 hB
          refine lv_iload hx hb dX3_lowestToGo_27 (lv_at hl 0 rfl) ?_
          refine lv_iconst (v := (1 : Int32)) hx hb dX3_lowestToGo_29 (by decide) ?_
          refine lv_icmp_eq (tgt := 39) hx hb dX3_lowestToGo_30 (by decide) (fun c8 => ?_) (fun c8 => ?_)
          · have hB := it_t c8 hB
            refine lv_iload_n hx hb dX3_lowestToGo_39 rfl (lv_at hl 4 rfl) ?_
            subst hQ
            exact r_iret hx hb hr hK hS (pz (hE2 _ (Option.some.inj hB).symm)) hlocks dX3_lowestToGo_40
          · have hB := it_f c8 hB
            refine lv_iload hx hb dX3_lowestToGo_33 (lv_at hl 0 rfl) ?_
            refine lv_iconst (v := (2 : Int32)) hx hb dX3_lowestToGo_35 (by decide) ?_
            refine lv_icmp_ne (tgt := 41) hx hb dX3_lowestToGo_36 (by decide) (fun c9 => ?_) (fun c9 => ?_)
            · have hB := it_f c9 hB
              obtain ⟨x10, ex10⟩ : ∃ y : Int32, y = x1 + (1 : Int32) := ⟨_, rfl⟩
              have hB := vl_at ex10 hB
              refine lv_iinc (v := x10) (lv' := [(3, .int x10), (4, .int t3), (0, .ref (ad 39)), (1, .int a1), (2, .int a2)]) hx hb dX3_lowestToGo_41 hl (k := 4) rfl (by rw [ex10]; rfl) (by decide) rfl (fun ls hl => ?_)
              refine lv_goto (tgt := 2) hx hb dX3_lowestToGo_44 (by decide) ?_
              exact hI2 _ (Option.some.inj hB).symm H locs ls hS (lv_sub hl [2, 3, 4, 0] rfl)
            · have hB := it_t c9 hB
              refine lv_iload_n hx hb dX3_lowestToGo_39 rfl (lv_at hl 4 rfl) ?_
              subst hQ
              exact r_iret hx hb hr hK hS (pz (hE2 _ (Option.some.inj hB).symm)) hlocks dX3_lowestToGo_40
  · rcases t11 with t11 | v
    · rw [Sum.elim_inl] at hB
      intro H locs ls hS hl
      have hS : ST dC dI ad cA s σ H locs := hS
      have hl : lv_has ls 5 [] := hl
      show W p l e (RM 4 89) s m args below meth c H locs 0 0 Q (F0 m 47 ls [])
      refine lv_bipush (v := (-9 : Int32)) hx hb dX3_lowestToGo_47 (by decide) ?_
      subst hQ
      exact r_iret hx hb hr hK hS (pz hB) hlocks dX3_lowestToGo_49
    · exact hB
set_option maxHeartbeats 4000000 in
set_option maxRecDepth 100000 in
theorem c_X3_neighbourFrom (l : Launch) (dC : Nat → ClassId) (dI : Nat → Nat → Nat) (ad : Nat → Nat) (cA : Nat → ClassId) (σ : Sg) (a1 : Int32) (a2 : Int32) (z : Int32) (hB : f_X3_neighbourFrom σ a1 a2 = some z) : Ki l dC dI ad cA yX3_neighbourFrom wsX3_neighbourFrom 3 66 [.ref (ad 39), .int a1, .int a2] σ (z, σ) := by
  refine mk_i (cc := cX3_neighbourFrom) (maxL := 4) (ret := (some .int)) (by decide) rfl (Nat.le_of_ble_eq_true rfl) ?_
  intro p e s m args below meth c Q H locs ls ⟨hx, hb, hr, hml, hown, hts, hlocks, hK, hN⟩ hQ hS hl
  have hown : s.vm.findClass RX3 = some m.cls := hown
  have hl : lv_has ls 4 [(0, .ref (ad 39)), (1, .int a1), (2, .int a2)] := hl
  have hk_f22 := hts (.fieldLink RX3 22 "ChanceNets$Smaller" "nodes" "I") (by decide +kernel)
  have hin_X3 : ∀ w ∈ u_ws RX3 TX3 3, w ∈ wsX3_neighbourFrom := by decide +kernel
  unfold f_X3_neighbourFrom at hB
  refine lv_iload_n hx hb dX3_neighbourFrom_0 rfl (lv_at hl 2 rfl) ?_
  refine lv_istore_n (lv' := [(3, .int a2), (0, .ref (ad 39)), (1, .int a1), (2, .int a2)]) hx hb dX3_neighbourFrom_1 rfl hl (by decide) rfl (fun ls hl => ?_)
  obtain ⟨t6, ht6, hB⟩ := bi_at hB
  refine wl_W (body := fun a => f_X3_neighbourFrom_B2 σ a1 a) (Hd := fun a : Int32 => ∀ (H : Heap) (locs : List Loc) (ls : Array Slot), ST dC dI ad cA s σ H locs → lv_has ls 4 [(0, .ref (ad 39)), (1, .int a1), (3, .int a)] → W p l e (RM 3 66) s m args below meth c H locs 0 0 Q (F0 m 2 ls [])) (Ex := fun b : (Unit) ⊕ (Int32) => Sum.elim (fun b : Unit => ∀ (H : Heap) (locs : List Loc) (ls : Array Slot), ST dC dI ad cA s σ H locs → lv_has ls 4 [(0, .ref (ad 39))] → W p l e (RM 3 66) s m args below meth c H locs 0 0 Q (F0 m 27 ls [])) (fun v => some v = some z) b) ?_ FU _ t6 ht6 ?_ H locs ls hS (lv_sub hl [1, 2, 0] rfl)
  · intro a r2 hB hI2 hE2 H locs ls hS hl
    obtain ⟨x1, rfl⟩ : ∃ y, y = a := ⟨_, rfl⟩
    have hB : f_X3_neighbourFrom_B2 σ a1 x1 = some r2 := hB
    unfold f_X3_neighbourFrom_B2 at hB
    have hS : ST dC dI ad cA s σ H locs := hS
    have hl : lv_has ls 4 [(0, .ref (ad 39)), (1, .int a1), (3, .int x1)] := hl
    show W p l e (RM 3 66) s m args below meth c H locs 0 0 Q (F0 m 2 ls [])
    refine lv_iload_n hx hb dX3_neighbourFrom_2 rfl (lv_at hl 2 rfl) ?_
    refine lv_aload_n hx hb dX3_neighbourFrom_3 rfl (lv_at hl 0 rfl) ?_
    refine r_get (v := .int (gI σ 16)) (C := RX3) (T := TX3) (N := 3) hx hb hts hin_X3 hown hK hS (by decide) e_39 rfl 2 (by decide) hk_f22 rfl rfl dX3_neighbourFrom_4 ?_
    refine lv_icmp_ge (tgt := 27) hx hb dX3_neighbourFrom_7 (by decide) (fun c2 => ?_) (fun c2 => ?_)
    · have hB := it_t c2 hB
      exact hE2 _ (Option.some.inj hB).symm H locs ls hS (lv_sub hl [0] rfl)
    · have hB := it_f c2 hB
      refine lv_aload_n hx hb dX3_neighbourFrom_10 rfl (lv_at hl 0 rfl) ?_
      refine lv_iload_n hx hb dX3_neighbourFrom_11 rfl (lv_at hl 1 rfl) ?_
      refine lv_iload_n hx hb dX3_neighbourFrom_12 rfl (lv_at hl 2 rfl) ?_
      obtain ⟨t3, ht3, hB⟩ := bi_at hB
      refine r_ViP ⟨hx, hb, hml, hown, hts⟩ (c_X3_joined l dC dI ad cA σ a1 x1 t3 ht3) (cwV 2 hts gX3_neighbourFrom_X3_joined rfl rfl rfl (by decide +kernel) ⟨Nat.le_of_ble_eq_true rfl, Nat.le_of_ble_eq_true rfl⟩) hK hN hS (by decide) e_39 rfl rfl hl.1 rfl (Nat.le_of_ble_eq_true rfl) dX3_neighbourFrom_13 ⟨Nat.le_refl _, Nat.le_refl _⟩ (fun H locs hS => ?_)
      refine lv_if_eq (tgt := 21) hx hb dX3_neighbourFrom_16 (by decide) (fun c4 => ?_) (fun c4 => ?_)
      · have hB := it_t c4 hB
        obtain ⟨x5, ex5⟩ : ∃ y : Int32, y = x1 + (1 : Int32) := ⟨_, rfl⟩
        have hB := vl_at ex5 hB
        refine lv_iinc (v := x5) (lv' := [(3, .int x5), (0, .ref (ad 39)), (1, .int a1)]) hx hb dX3_neighbourFrom_21 hl (k := 2) rfl (by rw [ex5]; rfl) (by decide) rfl (fun ls hl => ?_)
        refine lv_goto (tgt := 2) hx hb dX3_neighbourFrom_24 (by decide) ?_
        exact hI2 _ (Option.some.inj hB).symm H locs ls hS (lv_sub hl [1, 2, 0] rfl)
      · have hB := it_f c4 hB
        refine lv_iload_n hx hb dX3_neighbourFrom_19 rfl (lv_at hl 2 rfl) ?_
        subst hQ
        exact r_iret hx hb hr hK hS (pz (hE2 _ (Option.some.inj hB).symm)) hlocks dX3_neighbourFrom_20
  · rcases t6 with t6 | v
    · rw [Sum.elim_inl] at hB
      intro H locs ls hS hl
      have hS : ST dC dI ad cA s σ H locs := hS
      have hl : lv_has ls 4 [(0, .ref (ad 39))] := hl
      show W p l e (RM 3 66) s m args below meth c H locs 0 0 Q (F0 m 27 ls [])
      refine lv_aload_n hx hb dX3_neighbourFrom_27 rfl (lv_at hl 0 rfl) ?_
      refine r_get (v := .int (gI σ 16)) (C := RX3) (T := TX3) (N := 3) hx hb hts hin_X3 hown hK hS (by decide) e_39 rfl 2 (by decide) hk_f22 rfl rfl dX3_neighbourFrom_28 ?_
      subst hQ
      exact r_iret hx hb hr hK hS (pz hB) hlocks dX3_neighbourFrom_31
    · exact hB
set_option maxHeartbeats 4000000 in
set_option maxRecDepth 100000 in
theorem c_X3_upperAt (l : Launch) (dC : Nat → ClassId) (dI : Nat → Nat → Nat) (ad : Nat → Nat) (cA : Nat → ClassId) (σ : Sg) (a1 : Int32) (a2 : Int32) (z : Int64) (hB : f_X3_upperAt σ a1 a2 = some z) : Kl l dC dI ad cA yX3_upperAt wsX3_upperAt 1 22 [.ref (ad 39), .int a1, .int a2] σ (z, σ) := by
  refine mk_l (cc := cX3_upperAt) (maxL := 3) (ret := (some .long)) (by decide) rfl (Nat.le_of_ble_eq_true rfl) ?_
  intro p e s m args below meth c Q H locs ls ⟨hx, hb, hr, hml, hown, hts, hlocks, hK, hN⟩ hQ hS hl
  have hown : s.vm.findClass RX3 = some m.cls := hown
  have hl : lv_has ls 3 [(0, .ref (ad 39)), (1, .int a1), (2, .int a2)] := hl
  have hk_f9 := hts (.fieldLink RX3 9 "ChanceNets$Smaller" "uppers" "[J") (by decide +kernel)
  have hin_X3 : ∀ w ∈ u_ws RX3 TX3 3, w ∈ wsX3_upperAt := by decide +kernel
  unfold f_X3_upperAt at hB
  refine lv_aload_n hx hb dX3_upperAt_0 rfl (lv_at hl 0 rfl) ?_
  refine lv_iload_n hx hb dX3_upperAt_1 rfl (lv_at hl 1 rfl) ?_
  refine lv_iload_n hx hb dX3_upperAt_2 rfl (lv_at hl 2 rfl) ?_
  obtain ⟨t1, ht1, hB⟩ := bi_at hB
  refine r_ViP ⟨hx, hb, hml, hown, hts⟩ (c_X3_isPair l dC dI ad cA σ a1 a2 t1 ht1) (cwV 2 hts gX3_upperAt_X3_isPair rfl rfl rfl (by decide +kernel) ⟨Nat.le_of_ble_eq_true rfl, Nat.le_of_ble_eq_true rfl⟩) hK hN hS (by decide) e_39 rfl rfl hl.1 rfl (Nat.le_of_ble_eq_true rfl) dX3_upperAt_3 ⟨Nat.le_refl _, Nat.le_refl _⟩ (fun H locs hS => ?_)
  refine lv_if_eq (tgt := 23) hx hb dX3_upperAt_6 (by decide) (fun c2 => ?_) (fun c2 => ?_)
  · have hB := it_t c2 hB
    refine lv_lconst (v := (1 : Int64)) hx hb dX3_upperAt_23 (by decide) ?_
    subst hQ
    exact r_lret hx hb hr hK hS (pz hB) hlocks dX3_upperAt_24
  · have hB := it_f c2 hB
    refine lv_aload_n hx hb dX3_upperAt_9 rfl (lv_at hl 0 rfl) ?_
    refine r_get (v := .ref (ad 40)) (C := RX3) (T := TX3) (N := 3) hx hb hts hin_X3 hown hK hS (by decide) e_39 rfl 0 (by decide) hk_f9 rfl rfl dX3_upperAt_10 ?_
    refine lv_iload_n hx hb dX3_upperAt_13 rfl (lv_at hl 1 rfl) ?_
    refine lv_bipush (v := (6 : Int32)) hx hb dX3_upperAt_14 (by decide) ?_
    refine lv_imul hx hb dX3_upperAt_16 ?_
    refine lv_iload_n hx hb dX3_upperAt_17 rfl (lv_at hl 2 rfl) ?_
    refine lv_iadd hx hb dX3_upperAt_18 ?_
    obtain ⟨h3, hB⟩ := gd_at hB
    refine r_lald hx hb hK hS h3 dX3_upperAt_19 ?_
    refine lv_goto (tgt := 24) hx hb dX3_upperAt_20 (by decide) ?_
    subst hQ
    exact r_lret hx hb hr hK hS (pz hB) hlocks dX3_upperAt_24
set_option maxHeartbeats 4000000 in
set_option maxRecDepth 100000 in
theorem c_X3_laysBeside (l : Launch) (dC : Nat → ClassId) (dI : Nat → Nat → Nat) (ad : Nat → Nat) (cA : Nat → ClassId) (σ : Sg) (a1 : Int32) (a2 : Int32) (a3 : Int64) (a4 : Int64) (z : Sg) (hB : f_X3_laysBeside σ a1 a2 a3 a4 = some z) : Kv l dC dI ad cA yX3_laysBeside wsX3_laysBeside 3 66 [.ref (ad 39), .int a1, .int a2, .long a3, .long a4] σ z := by
  refine mk_v (cc := cX3_laysBeside) (maxL := 13) (ret := none) (by decide) rfl (Nat.le_of_ble_eq_true rfl) ?_
  intro p e s m args below meth c Q H locs ls ⟨hx, hb, hr, hml, hown, hts, hlocks, hK, hN⟩ hQ hS hl
  have hown : s.vm.findClass RX3 = some m.cls := hown
  have hl : lv_has ls 13 [(0, .ref (ad 39)), (1, .int a1), (2, .int a2), (3, .long a3), (5, .long a4)] := hl
  unfold f_X3_laysBeside at hB
  refine lv_aload_n hx hb dX3_laysBeside_0 rfl (lv_at hl 0 rfl) ?_
  refine lv_iload_n hx hb dX3_laysBeside_1 rfl (lv_at hl 1 rfl) ?_
  refine lv_iload_n hx hb dX3_laysBeside_2 rfl (lv_at hl 2 rfl) ?_
  obtain ⟨t1, ht1, hB⟩ := bi_at hB
  refine r_ViP ⟨hx, hb, hml, hown, hts⟩ (c_X3_joined l dC dI ad cA σ a1 a2 t1 ht1) (cwV 2 hts gX3_laysBeside_X3_joined rfl rfl rfl (by decide +kernel) ⟨Nat.le_of_ble_eq_true rfl, Nat.le_of_ble_eq_true rfl⟩) hK hN hS (by decide) e_39 rfl rfl hl.1 rfl (Nat.le_of_ble_eq_true rfl) dX3_laysBeside_3 ⟨Nat.le_refl _, Nat.le_refl _⟩ (fun H locs hS => ?_)
  refine lv_if_ne (tgt := 19) hx hb dX3_laysBeside_6 (by decide) (fun c2 => ?_) (fun c2 => ?_)
  · have hB := it_f c2 hB
    refine lv_lload_n hx hb dX3_laysBeside_19 rfl (lv_at hl 3 rfl) ?_
    refine lv_aload_n hx hb dX3_laysBeside_20 rfl (lv_at hl 0 rfl) ?_
    refine lv_iload_n hx hb dX3_laysBeside_21 rfl (lv_at hl 1 rfl) ?_
    refine lv_iload_n hx hb dX3_laysBeside_22 rfl (lv_at hl 2 rfl) ?_
    obtain ⟨t3, ht3, hB⟩ := bi_at hB
    refine r_VlP ⟨hx, hb, hml, hown, hts⟩ (c_X3_upperAt l dC dI ad cA σ a1 a2 t3 ht3) (cwV 2 hts gX3_laysBeside_X3_upperAt rfl rfl rfl (by decide +kernel) ⟨Nat.le_of_ble_eq_true rfl, Nat.le_of_ble_eq_true rfl⟩) hK hN hS (by decide) e_39 rfl rfl hl.1 rfl (Nat.le_of_ble_eq_true rfl) dX3_laysBeside_23 ⟨Nat.le_refl _, Nat.le_refl _⟩ (fun H locs hS => ?_)
    refine lv_lmul hx hb dX3_laysBeside_26 ?_
    refine lv_topl (fun x4 ex4 => ?_)
    have hB := vl_at ex4 hB
    refine lv_lstore (lv' := [(7, .long x4), (0, .ref (ad 39)), (1, .int a1), (2, .int a2), (3, .long a3), (5, .long a4)]) hx hb dX3_laysBeside_27 hl (by decide) rfl (fun ls hl => ?_)
    refine lv_lload_n hx hb dX3_laysBeside_29 rfl (lv_at hl 4 rfl) ?_
    refine lv_aload_n hx hb dX3_laysBeside_30 rfl (lv_at hl 1 rfl) ?_
    refine lv_iload_n hx hb dX3_laysBeside_31 rfl (lv_at hl 2 rfl) ?_
    refine lv_iload_n hx hb dX3_laysBeside_32 rfl (lv_at hl 3 rfl) ?_
    obtain ⟨t5, ht5, hB⟩ := bi_at hB
    refine r_VlP ⟨hx, hb, hml, hown, hts⟩ (c_X3_lowerAt l dC dI ad cA σ a1 a2 t5 ht5) (cwV 2 hts gX3_laysBeside_X3_lowerAt rfl rfl rfl (by decide +kernel) ⟨Nat.le_of_ble_eq_true rfl, Nat.le_of_ble_eq_true rfl⟩) hK hN hS (by decide) e_39 rfl rfl hl.1 rfl (Nat.le_of_ble_eq_true rfl) dX3_laysBeside_33 ⟨Nat.le_refl _, Nat.le_refl _⟩ (fun H locs hS => ?_)
    refine lv_lmul hx hb dX3_laysBeside_36 ?_
    refine lv_lload hx hb dX3_laysBeside_37 (lv_at hl 5 rfl) ?_
    refine lv_aload_n hx hb dX3_laysBeside_39 rfl (lv_at hl 1 rfl) ?_
    refine lv_iload_n hx hb dX3_laysBeside_40 rfl (lv_at hl 2 rfl) ?_
    refine lv_iload_n hx hb dX3_laysBeside_41 rfl (lv_at hl 3 rfl) ?_
    obtain ⟨t6, ht6, hB⟩ := bi_at hB
    refine r_VlP ⟨hx, hb, hml, hown, hts⟩ (c_X3_upperAt l dC dI ad cA σ a1 a2 t6 ht6) (cwV 2 hts gX3_laysBeside_X3_upperAt rfl rfl rfl (by decide +kernel) ⟨Nat.le_of_ble_eq_true rfl, Nat.le_of_ble_eq_true rfl⟩) hK hN hS (by decide) e_39 rfl rfl hl.1 rfl (Nat.le_of_ble_eq_true rfl) dX3_laysBeside_42 ⟨Nat.le_refl _, Nat.le_refl _⟩ (fun H locs hS => ?_)
    refine lv_lmul hx hb dX3_laysBeside_45 ?_
    refine lv_ladd hx hb dX3_laysBeside_46 ?_
    refine lv_topl (fun x7 ex7 => ?_)
    have hB := vl_at ex7 hB
    refine lv_lstore (lv' := [(9, .long x7), (7, .long x4), (0, .ref (ad 39)), (1, .int a1), (2, .int a2), (3, .long a3), (5, .long a4)]) hx hb dX3_laysBeside_47 hl (by decide) rfl (fun ls hl => ?_)
    refine lv_lload hx hb dX3_laysBeside_49 (lv_at hl 1 rfl) ?_
    refine lv_lload hx hb dX3_laysBeside_51 (lv_at hl 0 rfl) ?_
    obtain ⟨t8, ht8, hB⟩ := bi_at hB
    refine r_SNlP ⟨hx, hb, hml, hown, hts⟩ (c_X6_commonDivisor l dC dI ad cA σ x4 x7 t8 ht8) ⟨va_cnB 2 hts gX3_laysBeside_X6_commonDivisor_n58 rfl rfl rfl hN (hts (.initialized RX6) (by decide +kernel)) (by decide +kernel) ⟨Nat.le_of_ble_eq_true rfl, Nat.le_of_ble_eq_true rfl⟩, hts (.static yX6_commonDivisor) (by decide +kernel), trivial⟩ hK hN hS rfl hl.1 rfl (Nat.le_of_ble_eq_true rfl) dX3_laysBeside_53 ⟨Nat.le_refl _, Nat.le_refl _⟩ (fun H locs hS => ?_)
    refine lv_lstore (lv' := [(11, .long t8), (9, .long x7), (7, .long x4), (0, .ref (ad 39)), (1, .int a1), (2, .int a2), (3, .long a3), (5, .long a4)]) hx hb dX3_laysBeside_56 hl (by decide) rfl (fun ls hl => ?_)
    refine lv_aload_n hx hb dX3_laysBeside_58 rfl (lv_at hl 3 rfl) ?_
    refine lv_iload_n hx hb dX3_laysBeside_59 rfl (lv_at hl 4 rfl) ?_
    refine lv_iload_n hx hb dX3_laysBeside_60 rfl (lv_at hl 5 rfl) ?_
    refine lv_lload hx hb dX3_laysBeside_61 (lv_at hl 2 rfl) ?_
    refine lv_lload hx hb dX3_laysBeside_63 (lv_at hl 0 rfl) ?_
    obtain ⟨h9, hB⟩ := gd_at hB
    refine lv_ldiv hx hb dX3_laysBeside_65 (of_decide_eq_true h9) ?_
    refine lv_lload hx hb dX3_laysBeside_66 (lv_at hl 1 rfl) ?_
    refine lv_lload hx hb dX3_laysBeside_68 (lv_at hl 0 rfl) ?_
    obtain ⟨h10, hB⟩ := gd_at hB
    refine lv_ldiv hx hb dX3_laysBeside_70 (of_decide_eq_true h10) ?_
    obtain ⟨t11, ht11, hB⟩ := bi_at hB
    refine r_Vv ⟨hx, hb, hml, hown, hts⟩ (c_X3_put l dC dI ad cA σ a1 a2 (x4 / t8) (x7 / t8) t11 ht11) (cwV 4 hts gX3_laysBeside_X3_put rfl rfl rfl (by decide +kernel) ⟨Nat.le_of_ble_eq_true rfl, Nat.le_of_ble_eq_true rfl⟩) hK hN hS (by decide) e_39 rfl rfl hl.1 rfl (Nat.le_of_ble_eq_true rfl) dX3_laysBeside_71 ⟨Nat.le_refl _, Nat.le_refl _⟩ (fun H locs hS => ?_)
    subst hQ
    exact r_vret hx hb hr hK hS hB hlocks dX3_laysBeside_74
  · have hB := it_t c2 hB
    refine lv_aload_n hx hb dX3_laysBeside_9 rfl (lv_at hl 0 rfl) ?_
    refine lv_iload_n hx hb dX3_laysBeside_10 rfl (lv_at hl 1 rfl) ?_
    refine lv_iload_n hx hb dX3_laysBeside_11 rfl (lv_at hl 2 rfl) ?_
    refine lv_lload_n hx hb dX3_laysBeside_12 rfl (lv_at hl 3 rfl) ?_
    refine lv_lload hx hb dX3_laysBeside_13 (lv_at hl 4 rfl) ?_
    obtain ⟨t12, ht12, hB⟩ := bi_at hB
    refine r_Vv ⟨hx, hb, hml, hown, hts⟩ (c_X3_put l dC dI ad cA σ a1 a2 a3 a4 t12 ht12) (cwV 4 hts gX3_laysBeside_X3_put rfl rfl rfl (by decide +kernel) ⟨Nat.le_of_ble_eq_true rfl, Nat.le_of_ble_eq_true rfl⟩) hK hN hS (by decide) e_39 rfl rfl hl.1 rfl (Nat.le_of_ble_eq_true rfl) dX3_laysBeside_15 ⟨Nat.le_refl _, Nat.le_refl _⟩ (fun H locs hS => ?_)
    subst hQ
    exact r_vret hx hb hr hK hS hB hlocks dX3_laysBeside_18
