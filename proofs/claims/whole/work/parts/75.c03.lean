set_option maxHeartbeats 4000000 in
set_option maxRecDepth 100000 in
theorem c_X6_hitting (l : Launch) (dC : Nat → ClassId) (dI : Nat → Nat → Nat) (ad : Nat → Nat) (cA : Nat → ClassId) (σ : Sg) (a1 : Int32) (a2 : Int32) (a3 : Int32) (z : Int64 × Sg) (hB : f_X6_hitting σ a1 a2 a3 = some z) : Kl l dC dI ad cA yX6_hitting wsX6_hitting 4 93 [.ref (ad 0), .int a1, .int a2, .int a3] σ z := by
  refine mk_l (cc := cX6_hitting) (maxL := 4) (ret := (some .long)) (by decide) rfl (Nat.le_of_ble_eq_true rfl) ?_
  intro p e s m args below meth c Q H locs ls ⟨hx, hb, hr, hml, hown, hts, hlocks, hK, hN⟩ hQ hS hl
  have hown : s.vm.findClass RX6 = some m.cls := hown
  have hl : lv_has ls 4 [(0, .ref (ad 0)), (1, .int a1), (2, .int a2), (3, .int a3)] := hl
  have hk_f19 := hts (.fieldLink RX6 19 "ChanceNets" "now" "LChanceNets$Net;") (by decide +kernel)
  have hin_X6 : ∀ w ∈ u_ws RX6 TX6 13, w ∈ wsX6_hitting := by decide +kernel
  have hk_c143 := hts (.constantLong RX6 143 (-1)) (by decide +kernel)
  have hk_f43 := hts (.fieldLink RX6 43 "ChanceNets" "balance" "LChanceNets$Balance;") (by decide +kernel)
  have hk_c149 := hts (.constantLong RX6 149 (-2)) (by decide +kernel)
  unfold f_X6_hitting at hB
  refine lv_aload_n hx hb dX6_hitting_0 rfl (lv_at hl 0 rfl) ?_
  refine r_get (v := .ref (ad 3)) (C := RX6) (T := TX6) (N := 13) hx hb hts hin_X6 hown hK hS (by decide) e_0 rfl 1 (by decide) hk_f19 rfl rfl dX6_hitting_1 ?_
  refine lv_iload_n hx hb dX6_hitting_4 rfl (lv_at hl 1 rfl) ?_
  obtain ⟨t1, ht1, hB⟩ := bi_at hB
  refine r_ViP ⟨hx, hb, hml, hown, hts⟩ (c_X1_hasNode l dC dI ad cA σ 0 (by decide) a1 t1 ht1) (cwV 1 hts gX6_hitting_X1_hasNode rfl rfl rfl (by decide +kernel) ⟨Nat.le_of_ble_eq_true rfl, Nat.le_of_ble_eq_true rfl⟩) hK hN hS (by decide) (e_net (k := 0) (by decide)) rfl rfl hl.1 rfl (Nat.le_of_ble_eq_true rfl) dX6_hitting_5 ⟨Nat.le_refl _, Nat.le_refl _⟩ (fun H locs hS => ?_)
  refine lv_if_eq (tgt := 29) hx hb dX6_hitting_8 (by decide) (fun c2 => ?_) (fun c2 => ?_)
  · have hB := it_t c2 hB
    refine lv_ldc2 (v := (-1 : Int64)) hx hb hown hk_c143 dX6_hitting_29 ?_
    subst hQ
    exact r_lret hx hb hr hK hS hB hlocks dX6_hitting_32
  · have hB := it_f c2 hB
    refine lv_aload_n hx hb dX6_hitting_11 rfl (lv_at hl 0 rfl) ?_
    refine r_get (v := .ref (ad 3)) (C := RX6) (T := TX6) (N := 13) hx hb hts hin_X6 hown hK hS (by decide) e_0 rfl 1 (by decide) hk_f19 rfl rfl dX6_hitting_12 ?_
    refine lv_iload_n hx hb dX6_hitting_15 rfl (lv_at hl 2 rfl) ?_
    obtain ⟨t3, ht3, hB⟩ := bi_at hB
    refine r_ViP ⟨hx, hb, hml, hown, hts⟩ (c_X1_hasNode l dC dI ad cA σ 0 (by decide) a2 t3 ht3) (cwV 1 hts gX6_hitting_X1_hasNode rfl rfl rfl (by decide +kernel) ⟨Nat.le_of_ble_eq_true rfl, Nat.le_of_ble_eq_true rfl⟩) hK hN hS (by decide) (e_net (k := 0) (by decide)) rfl rfl hl.1 rfl (Nat.le_of_ble_eq_true rfl) dX6_hitting_16 ⟨Nat.le_refl _, Nat.le_refl _⟩ (fun H locs hS => ?_)
    refine lv_if_eq (tgt := 29) hx hb dX6_hitting_19 (by decide) (fun c4 => ?_) (fun c4 => ?_)
    · have hB := it_t c4 hB
      refine lv_ldc2 (v := (-1 : Int64)) hx hb hown hk_c143 dX6_hitting_29 ?_
      subst hQ
      exact r_lret hx hb hr hK hS hB hlocks dX6_hitting_32
    · have hB := it_f c4 hB
      refine lv_iload_n hx hb dX6_hitting_22 rfl (lv_at hl 3 rfl) ?_
      obtain ⟨t5, ht5, hB⟩ := bi_at hB
      refine r_SiP ⟨hx, hb, hml, hown, hts⟩ (c_X6_isPart l dC dI ad cA σ a3 t5 ht5) (va_cwS 1 hts gX6_hitting_X6_isPart rfl rfl rfl (by decide +kernel) ⟨Nat.le_of_ble_eq_true rfl, Nat.le_of_ble_eq_true rfl⟩) hK hN hS rfl hl.1 rfl (Nat.le_of_ble_eq_true rfl) dX6_hitting_23 ⟨Nat.le_refl _, Nat.le_refl _⟩ (fun H locs hS => ?_)
      refine lv_if_ne (tgt := 33) hx hb dX6_hitting_26 (by decide) (fun c6 => ?_) (fun c6 => ?_)
      · have hB := it_f c6 hB
        refine lv_aload_n hx hb dX6_hitting_33 rfl (lv_at hl 0 rfl) ?_
        refine r_get (v := .ref (ad 3)) (C := RX6) (T := TX6) (N := 13) hx hb hts hin_X6 hown hK hS (by decide) e_0 rfl 1 (by decide) hk_f19 rfl rfl dX6_hitting_34 ?_
        obtain ⟨t7, ht7, hB⟩ := bi_at hB
        refine r_ViP ⟨hx, hb, hml, hown, hts⟩ (c_X1_hangs l dC dI ad cA σ 0 (by decide) t7 ht7) (cwV 0 hts gX6_hitting_X1_hangs rfl rfl rfl (by decide +kernel) ⟨Nat.le_of_ble_eq_true rfl, Nat.le_of_ble_eq_true rfl⟩) hK hN hS (by decide) (e_net (k := 0) (by decide)) rfl rfl hl.1 rfl (Nat.le_of_ble_eq_true rfl) dX6_hitting_37 ⟨Nat.le_refl _, Nat.le_refl _⟩ (fun H locs hS => ?_)
        refine lv_if_ne (tgt := 47) hx hb dX6_hitting_40 (by decide) (fun c8 => ?_) (fun c8 => ?_)
        · have hB := it_f c8 hB
          refine lv_aload_n hx hb dX6_hitting_47 rfl (lv_at hl 0 rfl) ?_
          refine r_get (v := .ref (ad 28)) (C := RX6) (T := TX6) (N := 13) hx hb hts hin_X6 hown hK hS (by decide) e_0 rfl 6 (by decide) hk_f43 rfl rfl dX6_hitting_48 ?_
          refine lv_aload_n hx hb dX6_hitting_51 rfl (lv_at hl 0 rfl) ?_
          refine r_get (v := .ref (ad 3)) (C := RX6) (T := TX6) (N := 13) hx hb hts hin_X6 hown hK hS (by decide) e_0 rfl 1 (by decide) hk_f19 rfl rfl dX6_hitting_52 ?_
          refine lv_iload_n hx hb dX6_hitting_55 rfl (lv_at hl 1 rfl) ?_
          refine lv_iload_n hx hb dX6_hitting_56 rfl (lv_at hl 2 rfl) ?_
          obtain ⟨t9, ht9, hB⟩ := bi_at hB
          refine r_Vl ⟨hx, hb, hml, hown, hts⟩ (c_X0_stepSum l dC dI ad cA σ 0 (by decide) a1 a2 t9 ht9) (cwV 3 hts gX6_hitting_X0_stepSum rfl rfl rfl (by decide +kernel) ⟨Nat.le_of_ble_eq_true rfl, Nat.le_of_ble_eq_true rfl⟩) hK hN hS (by decide) e_28 rfl rfl hl.1 rfl (Nat.le_of_ble_eq_true rfl) dX6_hitting_57 ⟨Nat.le_refl _, Nat.le_refl _⟩ (fun H locs hS => ?_)
          refine lv_aload_n hx hb dX6_hitting_60 rfl (lv_at hl 0 rfl) ?_
          refine r_get (v := .ref (ad 28)) (C := RX6) (T := TX6) (N := 13) hx hb hts hin_X6 hown hK hS (by decide) e_0 rfl 6 (by decide) hk_f43 rfl rfl dX6_hitting_61 ?_
          refine lv_aload_n hx hb dX6_hitting_64 rfl (lv_at hl 0 rfl) ?_
          refine r_get (v := .ref (ad 3)) (C := RX6) (T := TX6) (N := 13) hx hb hts hin_X6 hown hK hS (by decide) e_0 rfl 1 (by decide) hk_f19 rfl rfl dX6_hitting_65 ?_
          obtain ⟨t10, ht10, hB⟩ := bi_at hB
          refine r_Vl ⟨hx, hb, hml, hown, hts⟩ (c_X0_treeSum l dC dI ad cA t9.2 0 (by decide) t10 ht10) (cwV 1 hts gX6_hitting_X0_treeSum rfl rfl rfl (by decide +kernel) ⟨Nat.le_of_ble_eq_true rfl, Nat.le_of_ble_eq_true rfl⟩) hK hN hS (by decide) e_28 rfl rfl hl.1 rfl (Nat.le_of_ble_eq_true rfl) dX6_hitting_68 ⟨Nat.le_refl _, Nat.le_refl _⟩ (fun H locs hS => ?_)
          refine lv_iload_n hx hb dX6_hitting_71 rfl (lv_at hl 3 rfl) ?_
          obtain ⟨t11, ht11, hB⟩ := bi_at hB
          refine r_SlP ⟨hx, hb, hml, hown, hts⟩ (c_X6_partOf l dC dI ad cA t10.2 t9.1 t10.1 a3 t11 ht11) (va_cwS 3 hts gX6_hitting_X6_partOf rfl rfl rfl (by decide +kernel) ⟨Nat.le_of_ble_eq_true rfl, Nat.le_of_ble_eq_true rfl⟩) hK hN hS rfl hl.1 rfl (Nat.le_of_ble_eq_true rfl) dX6_hitting_72 ⟨Nat.le_refl _, Nat.le_refl _⟩ (fun H locs hS => ?_)
          subst hQ
          exact r_lret hx hb hr hK hS hB hlocks dX6_hitting_75
        · have hB := it_t c8 hB
          refine lv_ldc2 (v := (-2 : Int64)) hx hb hown hk_c149 dX6_hitting_43 ?_
          subst hQ
          exact r_lret hx hb hr hK hS hB hlocks dX6_hitting_46
      · have hB := it_t c6 hB
        refine lv_ldc2 (v := (-1 : Int64)) hx hb hown hk_c143 dX6_hitting_29 ?_
        subst hQ
        exact r_lret hx hb hr hK hS hB hlocks dX6_hitting_32
set_option maxHeartbeats 4000000 in
set_option maxRecDepth 100000 in
theorem c_X1_whole (l : Launch) (dC : Nat → ClassId) (dI : Nat → Nat → Nat) (ad : Nat → Nat) (cA : Nat → ClassId) (σ : Sg) (k : Nat) (hk : k < 5) (z : Int32) (hB : f_X1_whole σ k = some z) : Ki l dC dI ad cA yX1_whole wsX1_whole 3 64 [.ref (ad (3 + 4 * k))] σ (z, σ) := by
  refine mk_i (cc := cX1_whole) (maxL := 3) (ret := (some .int)) (by decide) rfl (Nat.le_of_ble_eq_true rfl) ?_
  intro p e s m args below meth c Q H locs ls ⟨hx, hb, hr, hml, hown, hts, hlocks, hK, hN⟩ hQ hS hl
  have hown : s.vm.findClass RX1 = some m.cls := hown
  have hl : lv_has ls 3 [(0, .ref (ad (3 + 4 * k)))] := hl
  have hk_f34 := hts (.fieldLink RX1 34 "ChanceNets$Net" "lines" "I") (by decide +kernel)
  have hin_X1 : ∀ w ∈ u_ws RX1 TX1 5, w ∈ wsX1_whole := by decide +kernel
  unfold f_X1_whole at hB
  refine lv_iconst (v := (0 : Int32)) hx hb dX1_whole_0 (by decide) ?_
  refine lv_istore_n (lv' := [(1, .int (0 : Int32)), (0, .ref (ad (3 + 4 * k)))]) hx hb dX1_whole_1 rfl hl (by decide) rfl (fun ls hl => ?_)
  refine lv_iconst (v := (0 : Int32)) hx hb dX1_whole_2 (by decide) ?_
  refine lv_istore_n (lv' := [(2, .int (0 : Int32)), (1, .int (0 : Int32)), (0, .ref (ad (3 + 4 * k)))]) hx hb dX1_whole_3 rfl hl (by decide) rfl (fun ls hl => ?_)
  obtain ⟨t7, ht7, hB⟩ := bi_at hB
  refine wl_W (body := fun a => f_X1_whole_B4 σ k a.1 a.2) (Hd := fun a : Int32 × Int32 => ∀ (H : Heap) (locs : List Loc) (ls : Array Slot), ST dC dI ad cA s σ H locs → lv_has ls 3 [(0, .ref (ad (3 + 4 * k))), (1, .int a.1), (2, .int a.2)] → W p l e (RM 3 64) s m args below meth c H locs 0 0 Q (F0 m 4 ls [])) (Ex := fun b : Int32 => ∀ (H : Heap) (locs : List Loc) (ls : Array Slot), ST dC dI ad cA s σ H locs → lv_has ls 3 [(1, .int b)] → W p l e (RM 3 64) s m args below meth c H locs 0 0 Q (F0 m 26 ls [])) ?_ FU _ t7 ht7 ?_ H locs ls hS (lv_sub hl [2, 1, 0] rfl)
  · intro a r4 hB hI4 hE4 H locs ls hS hl
    obtain ⟨x1, x2⟩ := a
    have hB : f_X1_whole_B4 σ k x1 x2 = some r4 := hB
    unfold f_X1_whole_B4 at hB
    have hS : ST dC dI ad cA s σ H locs := hS
    have hl : lv_has ls 3 [(0, .ref (ad (3 + 4 * k))), (1, .int x1), (2, .int x2)] := hl
    show W p l e (RM 3 64) s m args below meth c H locs 0 0 Q (F0 m 4 ls [])
    refine lv_iload_n hx hb dX1_whole_4 rfl (lv_at hl 2 rfl) ?_
    refine lv_aload_n hx hb dX1_whole_5 rfl (lv_at hl 0 rfl) ?_
    refine r_get (v := .int (gI σ (5 + 2 * k))) (C := RX1) (T := TX1) (N := 5) hx hb hts hin_X1 hown hK hS (by omega) (e_net (k := k) hk) rfl 1 (by decide) hk_f34 rfl rfl dX1_whole_6 ?_
    refine lv_icmp_ge (tgt := 26) hx hb dX1_whole_9 (by decide) (fun c3 => ?_) (fun c3 => ?_)
    · have hB := it_t c3 hB
      exact hE4 _ (Option.some.inj hB).symm H locs ls hS (lv_sub hl [1] rfl)
    · have hB := it_f c3 hB
      refine lv_iload_n hx hb dX1_whole_12 rfl (lv_at hl 1 rfl) ?_
      refine lv_aload_n hx hb dX1_whole_13 rfl (lv_at hl 0 rfl) ?_
      refine lv_iload_n hx hb dX1_whole_14 rfl (lv_at hl 2 rfl) ?_
      obtain ⟨t4, ht4, hB⟩ := bi_at hB
      refine r_ViP ⟨hx, hb, hml, hown, hts⟩ (c_X1_widthOf l dC dI ad cA σ k hk x2 t4 ht4) (cwV 1 hts gX1_whole_X1_widthOf rfl rfl rfl (by decide +kernel) ⟨Nat.le_of_ble_eq_true rfl, Nat.le_of_ble_eq_true rfl⟩) hK hN hS (by omega) (e_net (k := k) hk) rfl rfl hl.1 rfl (Nat.le_of_ble_eq_true rfl) dX1_whole_15 ⟨Nat.le_refl _, Nat.le_refl _⟩ (fun H locs hS => ?_)
      refine lv_iadd hx hb dX1_whole_18 ?_
      refine lv_topi (fun x5 ex5 => ?_)
      have hB := vl_at ex5 hB
      refine lv_istore_n (lv' := [(1, .int x5), (0, .ref (ad (3 + 4 * k))), (2, .int x2)]) hx hb dX1_whole_19 rfl hl (by decide) rfl (fun ls hl => ?_)
      obtain ⟨x6, ex6⟩ : ∃ y : Int32, y = x2 + (1 : Int32) := ⟨_, rfl⟩
      have hB := vl_at ex6 hB
      refine lv_iinc (v := x6) (lv' := [(2, .int x6), (1, .int x5), (0, .ref (ad (3 + 4 * k)))]) hx hb dX1_whole_20 hl (k := 2) rfl (by rw [ex6]; rfl) (by decide) rfl (fun ls hl => ?_)
      refine lv_goto (tgt := 4) hx hb dX1_whole_23 (by decide) ?_
      exact hI4 _ (Option.some.inj hB).symm H locs ls hS (lv_sub hl [2, 1, 0] rfl)
  · skip
    intro H locs ls hS hl
    have hS : ST dC dI ad cA s σ H locs := hS
    have hl : lv_has ls 3 [(1, .int t7)] := hl
    show W p l e (RM 3 64) s m args below meth c H locs 0 0 Q (F0 m 26 ls [])
    refine lv_iload_n hx hb dX1_whole_26 rfl (lv_at hl 0 rfl) ?_
    subst hQ
    exact r_iret hx hb hr hK hS (pz hB) hlocks dX1_whole_27
set_option maxHeartbeats 4000000 in
set_option maxRecDepth 100000 in
theorem c_X6_between (l : Launch) (dC : Nat → ClassId) (dI : Nat → Nat → Nat) (ad : Nat → Nat) (cA : Nat → ClassId) (σ : Sg) (a1 : Int32) (a2 : Int32) (a3 : Int32) (a4 : Int32) (z : Int64 × Sg) (hB : f_X6_between σ a1 a2 a3 a4 = some z) : Kl l dC dI ad cA yX6_between wsX6_between 4 93 [.ref (ad 0), .int a1, .int a2, .int a3, .int a4] σ z := by
  refine mk_l (cc := cX6_between) (maxL := 9) (ret := (some .long)) (by decide) rfl (Nat.le_of_ble_eq_true rfl) ?_
  intro p e s m args below meth c Q H locs ls ⟨hx, hb, hr, hml, hown, hts, hlocks, hK, hN⟩ hQ hS hl
  have hown : s.vm.findClass RX6 = some m.cls := hown
  have hl : lv_has ls 9 [(0, .ref (ad 0)), (1, .int a1), (2, .int a2), (3, .int a3), (4, .int a4)] := hl
  have hk_f19 := hts (.fieldLink RX6 19 "ChanceNets" "now" "LChanceNets$Net;") (by decide +kernel)
  have hin_X6 : ∀ w ∈ u_ws RX6 TX6 13, w ∈ wsX6_between := by decide +kernel
  have hk_c143 := hts (.constantLong RX6 143 (-1)) (by decide +kernel)
  have hk_f43 := hts (.fieldLink RX6 43 "ChanceNets" "balance" "LChanceNets$Balance;") (by decide +kernel)
  have hk_c163 := hts (.constantLong RX6 163 (2)) (by decide +kernel)
  have hk_c149 := hts (.constantLong RX6 149 (-2)) (by decide +kernel)
  unfold f_X6_between at hB
  refine lv_aload_n hx hb dX6_between_0 rfl (lv_at hl 0 rfl) ?_
  refine r_get (v := .ref (ad 3)) (C := RX6) (T := TX6) (N := 13) hx hb hts hin_X6 hown hK hS (by decide) e_0 rfl 1 (by decide) hk_f19 rfl rfl dX6_between_1 ?_
  refine lv_iload_n hx hb dX6_between_4 rfl (lv_at hl 1 rfl) ?_
  obtain ⟨t1, ht1, hB⟩ := bi_at hB
  refine r_ViP ⟨hx, hb, hml, hown, hts⟩ (c_X1_hasNode l dC dI ad cA σ 0 (by decide) a1 t1 ht1) (cwV 1 hts gX6_between_X1_hasNode rfl rfl rfl (by decide +kernel) ⟨Nat.le_of_ble_eq_true rfl, Nat.le_of_ble_eq_true rfl⟩) hK hN hS (by decide) (e_net (k := 0) (by decide)) rfl rfl hl.1 rfl (Nat.le_of_ble_eq_true rfl) dX6_between_5 ⟨Nat.le_refl _, Nat.le_refl _⟩ (fun H locs hS => ?_)
  refine lv_if_eq (tgt := 39) hx hb dX6_between_8 (by decide) (fun c2 => ?_) (fun c2 => ?_)
  · have hB := it_t c2 hB
    refine lv_ldc2 (v := (-1 : Int64)) hx hb hown hk_c143 dX6_between_39 ?_
    subst hQ
    exact r_lret hx hb hr hK hS hB hlocks dX6_between_42
  · have hB := it_f c2 hB
    refine lv_aload_n hx hb dX6_between_11 rfl (lv_at hl 0 rfl) ?_
    refine r_get (v := .ref (ad 3)) (C := RX6) (T := TX6) (N := 13) hx hb hts hin_X6 hown hK hS (by decide) e_0 rfl 1 (by decide) hk_f19 rfl rfl dX6_between_12 ?_
    refine lv_iload_n hx hb dX6_between_15 rfl (lv_at hl 2 rfl) ?_
    obtain ⟨t3, ht3, hB⟩ := bi_at hB
    refine r_ViP ⟨hx, hb, hml, hown, hts⟩ (c_X1_hasNode l dC dI ad cA σ 0 (by decide) a2 t3 ht3) (cwV 1 hts gX6_between_X1_hasNode rfl rfl rfl (by decide +kernel) ⟨Nat.le_of_ble_eq_true rfl, Nat.le_of_ble_eq_true rfl⟩) hK hN hS (by decide) (e_net (k := 0) (by decide)) rfl rfl hl.1 rfl (Nat.le_of_ble_eq_true rfl) dX6_between_16 ⟨Nat.le_refl _, Nat.le_refl _⟩ (fun H locs hS => ?_)
    refine lv_if_eq (tgt := 39) hx hb dX6_between_19 (by decide) (fun c4 => ?_) (fun c4 => ?_)
    · have hB := it_t c4 hB
      refine lv_ldc2 (v := (-1 : Int64)) hx hb hown hk_c143 dX6_between_39 ?_
      subst hQ
      exact r_lret hx hb hr hK hS hB hlocks dX6_between_42
    · have hB := it_f c4 hB
      refine lv_iload_n hx hb dX6_between_22 rfl (lv_at hl 3 rfl) ?_
      refine lv_if_lt (tgt := 39) hx hb dX6_between_23 (by decide) (fun c5 => ?_) (fun c5 => ?_)
      · have hB := it_t c5 hB
        refine lv_ldc2 (v := (-1 : Int64)) hx hb hown hk_c143 dX6_between_39 ?_
        subst hQ
        exact r_lret hx hb hr hK hS hB hlocks dX6_between_42
      · have hB := it_f c5 hB
        refine lv_iload_n hx hb dX6_between_26 rfl (lv_at hl 3 rfl) ?_
        refine lv_iconst (v := (1 : Int32)) hx hb dX6_between_27 (by decide) ?_
        refine lv_icmp_gt (tgt := 39) hx hb dX6_between_28 (by decide) (fun c6 => ?_) (fun c6 => ?_)
        · have hB := it_t c6 hB
          refine lv_ldc2 (v := (-1 : Int64)) hx hb hown hk_c143 dX6_between_39 ?_
          subst hQ
          exact r_lret hx hb hr hK hS hB hlocks dX6_between_42
        · have hB := it_f c6 hB
          refine lv_iload hx hb dX6_between_31 (lv_at hl 4 rfl) ?_
          obtain ⟨t7, ht7, hB⟩ := bi_at hB
          refine r_SiP ⟨hx, hb, hml, hown, hts⟩ (c_X6_isPart l dC dI ad cA σ a4 t7 ht7) (va_cwS 1 hts gX6_between_X6_isPart rfl rfl rfl (by decide +kernel) ⟨Nat.le_of_ble_eq_true rfl, Nat.le_of_ble_eq_true rfl⟩) hK hN hS rfl hl.1 rfl (Nat.le_of_ble_eq_true rfl) dX6_between_33 ⟨Nat.le_refl _, Nat.le_refl _⟩ (fun H locs hS => ?_)
          refine lv_if_ne (tgt := 43) hx hb dX6_between_36 (by decide) (fun c8 => ?_) (fun c8 => ?_)
          · have hB := it_f c8 hB
            refine lv_aload_n hx hb dX6_between_43 rfl (lv_at hl 0 rfl) ?_
            refine r_get (v := .ref (ad 3)) (C := RX6) (T := TX6) (N := 13) hx hb hts hin_X6 hown hK hS (by decide) e_0 rfl 1 (by decide) hk_f19 rfl rfl dX6_between_44 ?_
            obtain ⟨t9, ht9, hB⟩ := bi_at hB
            refine r_ViP ⟨hx, hb, hml, hown, hts⟩ (c_X1_hangs l dC dI ad cA σ 0 (by decide) t9 ht9) (cwV 0 hts gX6_between_X1_hangs rfl rfl rfl (by decide +kernel) ⟨Nat.le_of_ble_eq_true rfl, Nat.le_of_ble_eq_true rfl⟩) hK hN hS (by decide) (e_net (k := 0) (by decide)) rfl rfl hl.1 rfl (Nat.le_of_ble_eq_true rfl) dX6_between_47 ⟨Nat.le_refl _, Nat.le_refl _⟩ (fun H locs hS => ?_)
            refine lv_if_ne (tgt := 57) hx hb dX6_between_50 (by decide) (fun c10 => ?_) (fun c10 => ?_)
            · have hB := it_f c10 hB
              refine lv_aload_n hx hb dX6_between_57 rfl (lv_at hl 0 rfl) ?_
              refine r_get (v := .ref (ad 28)) (C := RX6) (T := TX6) (N := 13) hx hb hts hin_X6 hown hK hS (by decide) e_0 rfl 6 (by decide) hk_f43 rfl rfl dX6_between_58 ?_
              refine lv_aload_n hx hb dX6_between_61 rfl (lv_at hl 0 rfl) ?_
              refine r_get (v := .ref (ad 3)) (C := RX6) (T := TX6) (N := 13) hx hb hts hin_X6 hown hK hS (by decide) e_0 rfl 1 (by decide) hk_f19 rfl rfl dX6_between_62 ?_
              refine lv_iload_n hx hb dX6_between_65 rfl (lv_at hl 1 rfl) ?_
              refine lv_iload_n hx hb dX6_between_66 rfl (lv_at hl 2 rfl) ?_
              obtain ⟨t11, ht11, hB⟩ := bi_at hB
              refine r_Vl ⟨hx, hb, hml, hown, hts⟩ (c_X0_stepSum l dC dI ad cA σ 0 (by decide) a1 a2 t11 ht11) (cwV 3 hts gX6_between_X0_stepSum rfl rfl rfl (by decide +kernel) ⟨Nat.le_of_ble_eq_true rfl, Nat.le_of_ble_eq_true rfl⟩) hK hN hS (by decide) e_28 rfl rfl hl.1 rfl (Nat.le_of_ble_eq_true rfl) dX6_between_67 ⟨Nat.le_refl _, Nat.le_refl _⟩ (fun H locs hS => ?_)
              refine lv_aload_n hx hb dX6_between_70 rfl (lv_at hl 0 rfl) ?_
              refine r_get (v := .ref (ad 28)) (C := RX6) (T := TX6) (N := 13) hx hb hts hin_X6 hown hK hS (by decide) e_0 rfl 6 (by decide) hk_f43 rfl rfl dX6_between_71 ?_
              refine lv_aload_n hx hb dX6_between_74 rfl (lv_at hl 0 rfl) ?_
              refine r_get (v := .ref (ad 3)) (C := RX6) (T := TX6) (N := 13) hx hb hts hin_X6 hown hK hS (by decide) e_0 rfl 1 (by decide) hk_f19 rfl rfl dX6_between_75 ?_
              refine lv_iload_n hx hb dX6_between_78 rfl (lv_at hl 2 rfl) ?_
              refine lv_iload_n hx hb dX6_between_79 rfl (lv_at hl 1 rfl) ?_
              obtain ⟨t12, ht12, hB⟩ := bi_at hB
              refine r_Vl ⟨hx, hb, hml, hown, hts⟩ (c_X0_stepSum l dC dI ad cA t11.2 0 (by decide) a2 a1 t12 ht12) (cwV 3 hts gX6_between_X0_stepSum rfl rfl rfl (by decide +kernel) ⟨Nat.le_of_ble_eq_true rfl, Nat.le_of_ble_eq_true rfl⟩) hK hN hS (by decide) e_28 rfl rfl hl.1 rfl (Nat.le_of_ble_eq_true rfl) dX6_between_80 ⟨Nat.le_refl _, Nat.le_refl _⟩ (fun H locs hS => ?_)
              refine lv_ladd hx hb dX6_between_83 ?_
              refine lv_topl (fun x13 ex13 => ?_)
              have hB := vl_at ex13 hB
              refine lv_lstore (lv' := [(5, .long x13), (0, .ref (ad 0)), (1, .int a1), (2, .int a2), (3, .int a3), (4, .int a4)]) hx hb dX6_between_84 hl (by decide) rfl (fun ls hl => ?_)
              refine lv_aload_n hx hb dX6_between_86 rfl (lv_at hl 1 rfl) ?_
              refine r_get (v := .ref (ad 28)) (C := RX6) (T := TX6) (N := 13) hx hb hts hin_X6 hown hK hS (by decide) e_0 rfl 6 (by decide) hk_f43 rfl rfl dX6_between_87 ?_
              refine lv_aload_n hx hb dX6_between_90 rfl (lv_at hl 1 rfl) ?_
              refine r_get (v := .ref (ad 3)) (C := RX6) (T := TX6) (N := 13) hx hb hts hin_X6 hown hK hS (by decide) e_0 rfl 1 (by decide) hk_f19 rfl rfl dX6_between_91 ?_
              obtain ⟨t14, ht14, hB⟩ := bi_at hB
              refine r_Vl ⟨hx, hb, hml, hown, hts⟩ (c_X0_treeSum l dC dI ad cA t12.2 0 (by decide) t14 ht14) (cwV 1 hts gX6_between_X0_treeSum rfl rfl rfl (by decide +kernel) ⟨Nat.le_of_ble_eq_true rfl, Nat.le_of_ble_eq_true rfl⟩) hK hN hS (by decide) e_28 rfl rfl hl.1 rfl (Nat.le_of_ble_eq_true rfl) dX6_between_94 ⟨Nat.le_refl _, Nat.le_refl _⟩ (fun H locs hS => ?_)
              refine lv_lstore (lv' := [(7, .long t14.1), (5, .long x13), (0, .ref (ad 0)), (1, .int a1), (2, .int a2), (3, .int a3), (4, .int a4)]) hx hb dX6_between_97 hl (by decide) rfl (fun ls hl => ?_)
              refine lv_lload hx hb dX6_between_99 (lv_at hl 1 rfl) ?_
              refine lv_iload_n hx hb dX6_between_101 rfl (lv_at hl 5 rfl) ?_
              have hJ125 : ∀ (x15 : Int64) (H : Heap) (locs : List Loc) (ls : Array Slot), f_X6_between_J125 a4 x13 t14 x15 = some z → ST dC dI ad cA s t14.2 H locs → lv_has ls 9 [(4, .int a4)] → W p l e (RM 4 93) s m args below meth c H locs 0 0 Q (F0 m 125 ls [.long x15, .long x13]) := by
                intro x15 H locs ls hB hS hl
                unfold f_X6_between_J125 at hB
                refine lv_iload hx hb dX6_between_125 (lv_at hl 0 rfl) ?_
                obtain ⟨t16, ht16, hB⟩ := bi_at hB
                refine r_SlP ⟨hx, hb, hml, hown, hts⟩ (c_X6_partOf l dC dI ad cA t14.2 x13 x15 a4 t16 ht16) (va_cwS 3 hts gX6_between_X6_partOf rfl rfl rfl (by decide +kernel) ⟨Nat.le_of_ble_eq_true rfl, Nat.le_of_ble_eq_true rfl⟩) hK hN hS rfl hl.1 rfl (Nat.le_of_ble_eq_true rfl) dX6_between_127 ⟨Nat.le_refl _, Nat.le_refl _⟩ (fun H locs hS => ?_)
                subst hQ
                exact r_lret hx hb hr hK hS hB hlocks dX6_between_130
              refine lv_if_ne (tgt := 110) hx hb dX6_between_102 (by decide) (fun c17 => ?_) (fun c17 => ?_)
              · have hB := it_f c17 hB
                refine lv_lload hx hb dX6_between_110 (lv_at hl 0 rfl) ?_
                refine lv_ldc2 (v := (2 : Int64)) hx hb hown hk_c163 dX6_between_112 ?_
                refine lv_lmul hx hb dX6_between_115 ?_
                refine lv_aload_n hx hb dX6_between_116 rfl (lv_at hl 2 rfl) ?_
                refine r_get (v := .ref (ad 3)) (C := RX6) (T := TX6) (N := 13) hx hb hts hin_X6 hown hK hS (by decide) e_0 rfl 1 (by decide) hk_f19 rfl rfl dX6_between_117 ?_
                obtain ⟨t18, ht18, hB⟩ := bi_at hB
                refine r_ViP ⟨hx, hb, hml, hown, hts⟩ (c_X1_whole l dC dI ad cA t14.2 0 (by decide) t18 ht18) (cwV 0 hts gX6_between_X1_whole rfl rfl rfl (by decide +kernel) ⟨Nat.le_of_ble_eq_true rfl, Nat.le_of_ble_eq_true rfl⟩) hK hN hS (by decide) (e_net (k := 0) (by decide)) rfl rfl hl.1 rfl (Nat.le_of_ble_eq_true rfl) dX6_between_120 ⟨Nat.le_refl _, Nat.le_refl _⟩ (fun H locs hS => ?_)
                refine lv_i2l hx hb dX6_between_123 rfl ?_
                refine lv_lmul hx hb dX6_between_124 ?_
                exact hJ125 ((t14.1 * (2 : Int64)) * t18.toInt64) H locs ls hB hS (lv_sub hl [6] rfl)
              · have hB := it_t c17 hB
                refine lv_lload hx hb dX6_between_105 (lv_at hl 0 rfl) ?_
                refine lv_goto (tgt := 125) hx hb dX6_between_107 (by decide) ?_
                exact hJ125 t14.1 H locs ls hB hS (lv_sub hl [6] rfl)
            · have hB := it_t c10 hB
              refine lv_ldc2 (v := (-2 : Int64)) hx hb hown hk_c149 dX6_between_53 ?_
              subst hQ
              exact r_lret hx hb hr hK hS hB hlocks dX6_between_56
          · have hB := it_t c8 hB
            refine lv_ldc2 (v := (-1 : Int64)) hx hb hown hk_c143 dX6_between_39 ?_
            subst hQ
            exact r_lret hx hb hr hK hS hB hlocks dX6_between_42
set_option maxHeartbeats 4000000 in
set_option maxRecDepth 100000 in
theorem c_X0_pullSum (l : Launch) (dC : Nat → ClassId) (dI : Nat → Nat → Nat) (ad : Nat → Nat) (cA : Nat → ClassId) (σ : Sg) (kn : Nat) (hkn : kn < 5) (a2 : Int32) (a3 : Int32) (a4 : Int32) (z : Int64 × Sg) (hB : f_X0_pullSum σ kn a2 a3 a4 = some z) : Kl l dC dI ad cA yX0_pullSum wsX0_pullSum 3 69 [.ref (ad 28), .ref (ad (3 + 4 * kn)), .int a2, .int a3, .int a4] σ z := by
  refine mk_l (cc := cX0_pullSum) (maxL := 6) (ret := (some .long)) (by decide) rfl (Nat.le_of_ble_eq_true rfl) ?_
  intro p e s m args below meth c Q H locs ls ⟨hx, hb, hr, hml, hown, hts, hlocks, hK, hN⟩ hQ hS hl
  have hown : s.vm.findClass RX0 = some m.cls := hown
  have hl : lv_has ls 6 [(0, .ref (ad 28)), (1, .ref (ad (3 + 4 * kn))), (2, .int a2), (3, .int a3), (4, .int a4)] := hl
  have hk_f28 := hts (.fieldLink RX0 28 "ChanceNets$Balance" "size" "I") (by decide +kernel)
  have hin_X0 : ∀ w ∈ u_ws RX0 TX0 3, w ∈ wsX0_pullSum := by decide +kernel
  have hk_f11 := hts (.fieldLink RX0 11 "ChanceNets$Balance" "grid" "[[J") (by decide +kernel)
  have hk_f16 := hts (.fieldLink RX0 16 "ChanceNets$Balance" "order" "[I") (by decide +kernel)
  unfold f_X0_pullSum at hB
  refine lv_iload_n hx hb dX0_pullSum_0 rfl (lv_at hl 2 rfl) ?_
  refine lv_iload hx hb dX0_pullSum_1 (lv_at hl 4 rfl) ?_
  refine lv_icmp_ne (tgt := 8) hx hb dX0_pullSum_3 (by decide) (fun c1 => ?_) (fun c1 => ?_)
  · have hB := it_f c1 hB
    refine lv_aload_n hx hb dX0_pullSum_8 rfl (lv_at hl 0 rfl) ?_
    refine lv_aload_n hx hb dX0_pullSum_9 rfl (lv_at hl 1 rfl) ?_
    refine lv_iload hx hb dX0_pullSum_10 (lv_at hl 4 rfl) ?_
    refine lv_iload_n hx hb dX0_pullSum_12 rfl (lv_at hl 2 rfl) ?_
    obtain ⟨t2, ht2, hB⟩ := bi_at hB
    refine r_Vv ⟨hx, hb, hml, hown, hts⟩ (c_X0_load l dC dI ad cA σ kn hkn a4 a2 t2 ht2) (cwV 3 hts gX0_pullSum_X0_load rfl rfl rfl (by decide +kernel) ⟨Nat.le_of_ble_eq_true rfl, Nat.le_of_ble_eq_true rfl⟩) hK hN hS (by decide) e_28 rfl rfl hl.1 rfl (Nat.le_of_ble_eq_true rfl) dX0_pullSum_13 ⟨Nat.le_refl _, Nat.le_refl _⟩ (fun H locs hS => ?_)
    refine lv_iconst (v := (0 : Int32)) hx hb dX0_pullSum_16 (by decide) ?_
    refine lv_istore (lv' := [(5, .int (0 : Int32)), (0, .ref (ad 28)), (1, .ref (ad (3 + 4 * kn))), (2, .int a2), (3, .int a3), (4, .int a4)]) hx hb dX0_pullSum_17 hl (by decide) rfl (fun ls hl => ?_)
    obtain ⟨t15, ht15, hB⟩ := bi_at hB
    refine wl_W (body := fun a => f_X0_pullSum_B19 a3 a.1 a.2) (Hd := fun a : Int32 × Sg => ∀ (H : Heap) (locs : List Loc) (ls : Array Slot), ST dC dI ad cA s a.2 H locs → lv_has ls 6 [(0, .ref (ad 28)), (3, .int a3), (5, .int a.1)] → W p l e (RM 3 69) s m args below meth c H locs 0 0 Q (F0 m 19 ls [])) (Ex := fun b : Sg => ∀ (H : Heap) (locs : List Loc) (ls : Array Slot), ST dC dI ad cA s b H locs → lv_has ls 6 [(0, .ref (ad 28))] → W p l e (RM 3 69) s m args below meth c H locs 0 0 Q (F0 m 64 ls [])) ?_ FU _ t15 ht15 ?_ H locs ls hS (lv_sub hl [1, 4, 0] rfl)
    · intro a r19 hB hI19 hE19 H locs ls hS hl
      obtain ⟨x3, σ4⟩ := a
      have hB : f_X0_pullSum_B19 a3 x3 σ4 = some r19 := hB
      unfold f_X0_pullSum_B19 at hB
      have hS : ST dC dI ad cA s σ4 H locs := hS
      have hl : lv_has ls 6 [(0, .ref (ad 28)), (3, .int a3), (5, .int x3)] := hl
      show W p l e (RM 3 69) s m args below meth c H locs 0 0 Q (F0 m 19 ls [])
      refine lv_iload hx hb dX0_pullSum_19 (lv_at hl 2 rfl) ?_
      refine lv_aload_n hx hb dX0_pullSum_21 rfl (lv_at hl 0 rfl) ?_
      refine r_get (v := .int (gI σ4 15)) (C := RX0) (T := TX0) (N := 3) hx hb hts hin_X0 hown hK hS (by decide) e_28 rfl 2 (by decide) hk_f28 rfl rfl dX0_pullSum_22 ?_
      refine lv_icmp_ge (tgt := 64) hx hb dX0_pullSum_25 (by decide) (fun c5 => ?_) (fun c5 => ?_)
      · have hB := it_t c5 hB
        exact hE19 _ (Option.some.inj hB).symm H locs ls hS (lv_sub hl [0] rfl)
      · have hB := it_f c5 hB
        refine lv_aload_n hx hb dX0_pullSum_28 rfl (lv_at hl 0 rfl) ?_
        refine r_get (v := .ref (ad 29)) (C := RX0) (T := TX0) (N := 3) hx hb hts hin_X0 hown hK hS (by decide) e_28 rfl 0 (by decide) hk_f11 rfl rfl dX0_pullSum_29 ?_
        refine lv_iload hx hb dX0_pullSum_32 (lv_at hl 2 rfl) ?_
        obtain ⟨h6, hB⟩ := gd_at hB
        refine r_grid hx hb hK hS h6 dX0_pullSum_34 ?_
        have hnh6 := okI_nat h6
        refine lv_aload_n hx hb dX0_pullSum_35 rfl (lv_at hl 0 rfl) ?_
        refine r_get (v := .int (gI σ4 15)) (C := RX0) (T := TX0) (N := 3) hx hb hts hin_X0 hown hK hS (by decide) e_28 rfl 2 (by decide) hk_f28 rfl rfl dX0_pullSum_36 ?_
        refine lv_iconst (v := (1 : Int32)) hx hb dX0_pullSum_39 (by decide) ?_
        refine lv_isub hx hb dX0_pullSum_40 ?_
        refine lv_aload_n hx hb dX0_pullSum_41 rfl (lv_at hl 0 rfl) ?_
        refine r_get (v := .ref (ad 35)) (C := RX0) (T := TX0) (N := 3) hx hb hts hin_X0 hown hK hS (by decide) e_28 rfl 1 (by decide) hk_f16 rfl rfl dX0_pullSum_42 ?_
        refine lv_iload hx hb dX0_pullSum_45 (lv_at hl 2 rfl) ?_
        obtain ⟨h7, hB⟩ := gd_at hB
        refine r_iald hx hb hK hS h7 dX0_pullSum_47 ?_
        refine lv_iload_n hx hb dX0_pullSum_48 rfl (lv_at hl 1 rfl) ?_
        refine lv_icmp_ne (tgt := 56) hx hb dX0_pullSum_49 (by decide) (fun c8 => ?_) (fun c8 => ?_)
        · have hB := it_f c8 hB
          refine lv_lconst (v := (0 : Int64)) hx hb dX0_pullSum_56 (by decide) ?_
          obtain ⟨h9, hB⟩ := gd_at hB
          refine r_last hx hb hK hS (by rw [lenJ_g hnh6]; exact h9) dX0_pullSum_57 (fun H locs hS => ?_)
          obtain ⟨σ10, eσ10⟩ : ∃ t : Sg, t = pJ σ4 (30 + x3.toNatClampNeg) ((gI σ4 15) - (1 : Int32)).toNatClampNeg (0 : Int64) := ⟨_, rfl⟩
          rw [← eσ10] at hS
          have hB := vl_at eσ10 hB
          obtain ⟨x11, ex11⟩ : ∃ y : Int32, y = x3 + (1 : Int32) := ⟨_, rfl⟩
          have hB := vl_at ex11 hB
          refine lv_iinc (v := x11) (lv' := [(5, .int x11), (0, .ref (ad 28)), (3, .int a3)]) hx hb dX0_pullSum_58 hl (k := 2) rfl (by rw [ex11]; rfl) (by decide) rfl (fun ls hl => ?_)
          refine lv_goto (tgt := 19) hx hb dX0_pullSum_61 (by decide) ?_
          exact hI19 _ (Option.some.inj hB).symm H locs ls hS (lv_sub hl [1, 2, 0] rfl)
        · have hB := it_t c8 hB
          refine lv_lconst (v := (1 : Int64)) hx hb dX0_pullSum_52 (by decide) ?_
          refine lv_goto (tgt := 57) hx hb dX0_pullSum_53 (by decide) ?_
          obtain ⟨h12, hB⟩ := gd_at hB
          refine r_last hx hb hK hS (by rw [lenJ_g hnh6]; exact h12) dX0_pullSum_57 (fun H locs hS => ?_)
          obtain ⟨σ13, eσ13⟩ : ∃ t : Sg, t = pJ σ4 (30 + x3.toNatClampNeg) ((gI σ4 15) - (1 : Int32)).toNatClampNeg (1 : Int64) := ⟨_, rfl⟩
          rw [← eσ13] at hS
          have hB := vl_at eσ13 hB
          obtain ⟨x14, ex14⟩ : ∃ y : Int32, y = x3 + (1 : Int32) := ⟨_, rfl⟩
          have hB := vl_at ex14 hB
          refine lv_iinc (v := x14) (lv' := [(5, .int x14), (0, .ref (ad 28)), (3, .int a3)]) hx hb dX0_pullSum_58 hl (k := 2) rfl (by rw [ex14]; rfl) (by decide) rfl (fun ls hl => ?_)
          refine lv_goto (tgt := 19) hx hb dX0_pullSum_61 (by decide) ?_
          exact hI19 _ (Option.some.inj hB).symm H locs ls hS (lv_sub hl [1, 2, 0] rfl)
    · skip
      intro H locs ls hS hl
      have hS : ST dC dI ad cA s t15 H locs := hS
      have hl : lv_has ls 6 [(0, .ref (ad 28))] := hl
      show W p l e (RM 3 69) s m args below meth c H locs 0 0 Q (F0 m 64 ls [])
      refine lv_aload_n hx hb dX0_pullSum_64 rfl (lv_at hl 0 rfl) ?_
      obtain ⟨t16, ht16, hB⟩ := bi_at hB
      refine r_Vl ⟨hx, hb, hml, hown, hts⟩ (c_X0_determinant l dC dI ad cA t15 t16 ht16) (cwV 0 hts gX0_pullSum_X0_determinant rfl rfl rfl (by decide +kernel) ⟨Nat.le_of_ble_eq_true rfl, Nat.le_of_ble_eq_true rfl⟩) hK hN hS (by decide) e_28 rfl rfl hl.1 rfl (Nat.le_of_ble_eq_true rfl) dX0_pullSum_65 ⟨Nat.le_refl _, Nat.le_refl _⟩ (fun H locs hS => ?_)
      subst hQ
      exact r_lret hx hb hr hK hS hB hlocks dX0_pullSum_68
  · have hB := it_t c1 hB
    refine lv_lconst (v := (0 : Int64)) hx hb dX0_pullSum_6 (by decide) ?_
    subst hQ
    exact r_lret hx hb hr hK hS hB hlocks dX0_pullSum_7
set_option maxHeartbeats 4000000 in
set_option maxRecDepth 100000 in
theorem c_X6_ahead (l : Launch) (dC : Nat → ClassId) (dI : Nat → Nat → Nat) (ad : Nat → Nat) (cA : Nat → ClassId) (σ : Sg) (a1 : Int32) (a2 : Int32) (a3 : Int32) (a4 : Int32) (z : Int64 × Sg) (hB : f_X6_ahead σ a1 a2 a3 a4 = some z) : Kl l dC dI ad cA yX6_ahead wsX6_ahead 4 94 [.ref (ad 0), .int a1, .int a2, .int a3, .int a4] σ z := by
  refine mk_l (cc := cX6_ahead) (maxL := 5) (ret := (some .long)) (by decide) rfl (Nat.le_of_ble_eq_true rfl) ?_
  intro p e s m args below meth c Q H locs ls ⟨hx, hb, hr, hml, hown, hts, hlocks, hK, hN⟩ hQ hS hl
  have hown : s.vm.findClass RX6 = some m.cls := hown
  have hl : lv_has ls 5 [(0, .ref (ad 0)), (1, .int a1), (2, .int a2), (3, .int a3), (4, .int a4)] := hl
  have hk_f19 := hts (.fieldLink RX6 19 "ChanceNets" "now" "LChanceNets$Net;") (by decide +kernel)
  have hin_X6 : ∀ w ∈ u_ws RX6 TX6 13, w ∈ wsX6_ahead := by decide +kernel
  have hk_c143 := hts (.constantLong RX6 143 (-1)) (by decide +kernel)
  have hk_f43 := hts (.fieldLink RX6 43 "ChanceNets" "balance" "LChanceNets$Balance;") (by decide +kernel)
  have hk_c149 := hts (.constantLong RX6 149 (-2)) (by decide +kernel)
  unfold f_X6_ahead at hB
  refine lv_aload_n hx hb dX6_ahead_0 rfl (lv_at hl 0 rfl) ?_
  refine r_get (v := .ref (ad 3)) (C := RX6) (T := TX6) (N := 13) hx hb hts hin_X6 hown hK hS (by decide) e_0 rfl 1 (by decide) hk_f19 rfl rfl dX6_ahead_1 ?_
  refine lv_iload_n hx hb dX6_ahead_4 rfl (lv_at hl 1 rfl) ?_
  obtain ⟨t1, ht1, hB⟩ := bi_at hB
  refine r_ViP ⟨hx, hb, hml, hown, hts⟩ (c_X1_hasNode l dC dI ad cA σ 0 (by decide) a1 t1 ht1) (cwV 1 hts gX6_ahead_X1_hasNode rfl rfl rfl (by decide +kernel) ⟨Nat.le_of_ble_eq_true rfl, Nat.le_of_ble_eq_true rfl⟩) hK hN hS (by decide) (e_net (k := 0) (by decide)) rfl rfl hl.1 rfl (Nat.le_of_ble_eq_true rfl) dX6_ahead_5 ⟨Nat.le_refl _, Nat.le_refl _⟩ (fun H locs hS => ?_)
  refine lv_if_eq (tgt := 28) hx hb dX6_ahead_8 (by decide) (fun c2 => ?_) (fun c2 => ?_)
  · have hB := it_t c2 hB
    refine lv_ldc2 (v := (-1 : Int64)) hx hb hown hk_c143 dX6_ahead_28 ?_
    subst hQ
    exact r_lret hx hb hr hK hS hB hlocks dX6_ahead_31
  · have hB := it_f c2 hB
    refine lv_aload_n hx hb dX6_ahead_11 rfl (lv_at hl 0 rfl) ?_
    refine lv_iload_n hx hb dX6_ahead_12 rfl (lv_at hl 2 rfl) ?_
    refine lv_iload_n hx hb dX6_ahead_13 rfl (lv_at hl 3 rfl) ?_
    obtain ⟨t3, ht3, hB⟩ := bi_at hB
    refine r_ViP ⟨hx, hb, hml, hown, hts⟩ (c_X6_areTwoNodes l dC dI ad cA σ a2 a3 t3 ht3) (cwV 2 hts gX6_ahead_X6_areTwoNodes rfl rfl rfl (by decide +kernel) ⟨Nat.le_of_ble_eq_true rfl, Nat.le_of_ble_eq_true rfl⟩) hK hN hS (by decide) e_0 rfl rfl hl.1 rfl (Nat.le_of_ble_eq_true rfl) dX6_ahead_14 ⟨Nat.le_refl _, Nat.le_refl _⟩ (fun H locs hS => ?_)
    refine lv_if_eq (tgt := 28) hx hb dX6_ahead_17 (by decide) (fun c4 => ?_) (fun c4 => ?_)
    · have hB := it_t c4 hB
      refine lv_ldc2 (v := (-1 : Int64)) hx hb hown hk_c143 dX6_ahead_28 ?_
      subst hQ
      exact r_lret hx hb hr hK hS hB hlocks dX6_ahead_31
    · have hB := it_f c4 hB
      refine lv_iload hx hb dX6_ahead_20 (lv_at hl 4 rfl) ?_
      obtain ⟨t5, ht5, hB⟩ := bi_at hB
      refine r_SiP ⟨hx, hb, hml, hown, hts⟩ (c_X6_isPart l dC dI ad cA σ a4 t5 ht5) (va_cwS 1 hts gX6_ahead_X6_isPart rfl rfl rfl (by decide +kernel) ⟨Nat.le_of_ble_eq_true rfl, Nat.le_of_ble_eq_true rfl⟩) hK hN hS rfl hl.1 rfl (Nat.le_of_ble_eq_true rfl) dX6_ahead_22 ⟨Nat.le_refl _, Nat.le_refl _⟩ (fun H locs hS => ?_)
      refine lv_if_ne (tgt := 32) hx hb dX6_ahead_25 (by decide) (fun c6 => ?_) (fun c6 => ?_)
      · have hB := it_f c6 hB
        refine lv_aload_n hx hb dX6_ahead_32 rfl (lv_at hl 0 rfl) ?_
        refine r_get (v := .ref (ad 3)) (C := RX6) (T := TX6) (N := 13) hx hb hts hin_X6 hown hK hS (by decide) e_0 rfl 1 (by decide) hk_f19 rfl rfl dX6_ahead_33 ?_
        obtain ⟨t7, ht7, hB⟩ := bi_at hB
        refine r_ViP ⟨hx, hb, hml, hown, hts⟩ (c_X1_hangs l dC dI ad cA σ 0 (by decide) t7 ht7) (cwV 0 hts gX6_ahead_X1_hangs rfl rfl rfl (by decide +kernel) ⟨Nat.le_of_ble_eq_true rfl, Nat.le_of_ble_eq_true rfl⟩) hK hN hS (by decide) (e_net (k := 0) (by decide)) rfl rfl hl.1 rfl (Nat.le_of_ble_eq_true rfl) dX6_ahead_36 ⟨Nat.le_refl _, Nat.le_refl _⟩ (fun H locs hS => ?_)
        refine lv_if_ne (tgt := 46) hx hb dX6_ahead_39 (by decide) (fun c8 => ?_) (fun c8 => ?_)
        · have hB := it_f c8 hB
          refine lv_aload_n hx hb dX6_ahead_46 rfl (lv_at hl 0 rfl) ?_
          refine r_get (v := .ref (ad 28)) (C := RX6) (T := TX6) (N := 13) hx hb hts hin_X6 hown hK hS (by decide) e_0 rfl 6 (by decide) hk_f43 rfl rfl dX6_ahead_47 ?_
          refine lv_aload_n hx hb dX6_ahead_50 rfl (lv_at hl 0 rfl) ?_
          refine r_get (v := .ref (ad 3)) (C := RX6) (T := TX6) (N := 13) hx hb hts hin_X6 hown hK hS (by decide) e_0 rfl 1 (by decide) hk_f19 rfl rfl dX6_ahead_51 ?_
          refine lv_iload_n hx hb dX6_ahead_54 rfl (lv_at hl 1 rfl) ?_
          refine lv_iload_n hx hb dX6_ahead_55 rfl (lv_at hl 2 rfl) ?_
          refine lv_iload_n hx hb dX6_ahead_56 rfl (lv_at hl 3 rfl) ?_
          obtain ⟨t9, ht9, hB⟩ := bi_at hB
          refine r_Vl ⟨hx, hb, hml, hown, hts⟩ (c_X0_pullSum l dC dI ad cA σ 0 (by decide) a1 a2 a3 t9 ht9) (cwV 4 hts gX6_ahead_X0_pullSum rfl rfl rfl (by decide +kernel) ⟨Nat.le_of_ble_eq_true rfl, Nat.le_of_ble_eq_true rfl⟩) hK hN hS (by decide) e_28 rfl rfl hl.1 rfl (Nat.le_of_ble_eq_true rfl) dX6_ahead_57 ⟨Nat.le_refl _, Nat.le_refl _⟩ (fun H locs hS => ?_)
          refine lv_aload_n hx hb dX6_ahead_60 rfl (lv_at hl 0 rfl) ?_
          refine r_get (v := .ref (ad 28)) (C := RX6) (T := TX6) (N := 13) hx hb hts hin_X6 hown hK hS (by decide) e_0 rfl 6 (by decide) hk_f43 rfl rfl dX6_ahead_61 ?_
          refine lv_aload_n hx hb dX6_ahead_64 rfl (lv_at hl 0 rfl) ?_
          refine r_get (v := .ref (ad 3)) (C := RX6) (T := TX6) (N := 13) hx hb hts hin_X6 hown hK hS (by decide) e_0 rfl 1 (by decide) hk_f19 rfl rfl dX6_ahead_65 ?_
          refine lv_iload_n hx hb dX6_ahead_68 rfl (lv_at hl 2 rfl) ?_
          refine lv_iload_n hx hb dX6_ahead_69 rfl (lv_at hl 2 rfl) ?_
          refine lv_iload_n hx hb dX6_ahead_70 rfl (lv_at hl 3 rfl) ?_
          obtain ⟨t10, ht10, hB⟩ := bi_at hB
          refine r_Vl ⟨hx, hb, hml, hown, hts⟩ (c_X0_pullSum l dC dI ad cA t9.2 0 (by decide) a2 a2 a3 t10 ht10) (cwV 4 hts gX6_ahead_X0_pullSum rfl rfl rfl (by decide +kernel) ⟨Nat.le_of_ble_eq_true rfl, Nat.le_of_ble_eq_true rfl⟩) hK hN hS (by decide) e_28 rfl rfl hl.1 rfl (Nat.le_of_ble_eq_true rfl) dX6_ahead_71 ⟨Nat.le_refl _, Nat.le_refl _⟩ (fun H locs hS => ?_)
          refine lv_iload hx hb dX6_ahead_74 (lv_at hl 4 rfl) ?_
          obtain ⟨t11, ht11, hB⟩ := bi_at hB
          refine r_SlP ⟨hx, hb, hml, hown, hts⟩ (c_X6_partOf l dC dI ad cA t10.2 t9.1 t10.1 a4 t11 ht11) (va_cwS 3 hts gX6_ahead_X6_partOf rfl rfl rfl (by decide +kernel) ⟨Nat.le_of_ble_eq_true rfl, Nat.le_of_ble_eq_true rfl⟩) hK hN hS rfl hl.1 rfl (Nat.le_of_ble_eq_true rfl) dX6_ahead_76 ⟨Nat.le_refl _, Nat.le_refl _⟩ (fun H locs hS => ?_)
          subst hQ
          exact r_lret hx hb hr hK hS hB hlocks dX6_ahead_79
        · have hB := it_t c8 hB
          refine lv_ldc2 (v := (-2 : Int64)) hx hb hown hk_c149 dX6_ahead_42 ?_
          subst hQ
          exact r_lret hx hb hr hK hS hB hlocks dX6_ahead_45
      · have hB := it_t c6 hB
        refine lv_ldc2 (v := (-1 : Int64)) hx hb hown hk_c143 dX6_ahead_28 ?_
        subst hQ
        exact r_lret hx hb hr hK hS hB hlocks dX6_ahead_31
set_option maxHeartbeats 4000000 in
set_option maxRecDepth 100000 in
theorem c_J7_fill_d0a16 (l : Launch) (dC : Nat → ClassId) (dI : Nat → Nat → Nat) (ad : Nat → Nat) (cA : Nat → ClassId) (σ : Sg) (q : Nat) (hq : ¬ lenJ q = 0) (a2 : Int64) (z : Sg) (hB : f_J7_fill_d0a16 σ q a2 = some z) : Kv l dC dI ad cA yJ7_fill_d0a16 wsJ7_fill_d0a16 0 0 [.ref (ad q), .long a2] σ z := by
  refine mk_v (cc := cJ7_fill_d0a16) (maxL := 5) (ret := none) (by decide) rfl (Nat.le_of_ble_eq_true rfl) ?_
  intro p e s m args below meth c Q H locs ls ⟨hx, hb, hr, hml, hown, hts, hlocks, hK, hN⟩ hQ hS hl
  have hown : s.vm.findClass RJ7 = some m.cls := hown
  have hl : lv_has ls 5 [(0, .ref (ad q)), (1, .long a2)] := hl
  unfold f_J7_fill_d0a16 at hB
  refine lv_iconst (v := (0 : Int32)) hx hb dJ7_fill_d0a16_0 (by decide) ?_
  refine lv_istore_n (lv' := [(3, .int (0 : Int32)), (0, .ref (ad q)), (1, .long a2)]) hx hb dJ7_fill_d0a16_1 rfl hl (by decide) rfl (fun ls hl => ?_)
  refine lv_aload_n hx hb dJ7_fill_d0a16_2 rfl (lv_at hl 1 rfl) ?_
  refine r_alenJ (v := nI (lenJ q)) hx hb hK hS hq rfl dJ7_fill_d0a16_3 ?_
  refine lv_topi (fun x1 ex1 => ?_)
  have hB := vl_at ex1 hB
  refine lv_istore (lv' := [(4, .int x1), (3, .int (0 : Int32)), (0, .ref (ad q)), (1, .long a2)]) hx hb dJ7_fill_d0a16_4 hl (by decide) rfl (fun ls hl => ?_)
  obtain ⟨t8, ht8, hB⟩ := bi_at hB
  refine wl_W (body := fun a => f_J7_fill_d0a16_B6 q a2 x1 a.1 a.2) (Hd := fun a : Int32 × Sg => ∀ (H : Heap) (locs : List Loc) (ls : Array Slot), ST dC dI ad cA s a.2 H locs → lv_has ls 5 [(0, .ref (ad q)), (1, .long a2), (3, .int a.1), (4, .int x1)] → W p l e (RM 0 0) s m args below meth c H locs 0 0 Q (F0 m 6 ls [])) (Ex := fun b : Sg => ∀ (H : Heap) (locs : List Loc) (ls : Array Slot), ST dC dI ad cA s b H locs → lv_has ls 5 [] → W p l e (RM 0 0) s m args below meth c H locs 0 0 Q (F0 m 22 ls [])) ?_ FU _ t8 ht8 ?_ H locs ls hS (lv_sub hl [2, 3, 1, 0] rfl)
  · intro a r6 hB hI6 hE6 H locs ls hS hl
    obtain ⟨x2, σ3⟩ := a
    have hB : f_J7_fill_d0a16_B6 q a2 x1 x2 σ3 = some r6 := hB
    unfold f_J7_fill_d0a16_B6 at hB
    have hS : ST dC dI ad cA s σ3 H locs := hS
    have hl : lv_has ls 5 [(0, .ref (ad q)), (1, .long a2), (3, .int x2), (4, .int x1)] := hl
    show W p l e (RM 0 0) s m args below meth c H locs 0 0 Q (F0 m 6 ls [])
    refine lv_iload_n hx hb dJ7_fill_d0a16_6 rfl (lv_at hl 2 rfl) ?_
    refine lv_iload hx hb dJ7_fill_d0a16_7 (lv_at hl 3 rfl) ?_
    refine lv_icmp_ge (tgt := 22) hx hb dJ7_fill_d0a16_9 (by decide) (fun c4 => ?_) (fun c4 => ?_)
    · have hB := it_t c4 hB
      exact hE6 _ (Option.some.inj hB).symm H locs ls hS (lv_sub hl [] rfl)
    · have hB := it_f c4 hB
      refine lv_aload_n hx hb dJ7_fill_d0a16_12 rfl (lv_at hl 0 rfl) ?_
      refine lv_iload_n hx hb dJ7_fill_d0a16_13 rfl (lv_at hl 2 rfl) ?_
      refine lv_lload_n hx hb dJ7_fill_d0a16_14 rfl (lv_at hl 1 rfl) ?_
      obtain ⟨h5, hB⟩ := gd_at hB
      refine r_last hx hb hK hS h5 dJ7_fill_d0a16_15 (fun H locs hS => ?_)
      obtain ⟨σ6, eσ6⟩ : ∃ t : Sg, t = pJ σ3 q x2.toNatClampNeg a2 := ⟨_, rfl⟩
      rw [← eσ6] at hS
      have hB := vl_at eσ6 hB
      obtain ⟨x7, ex7⟩ : ∃ y : Int32, y = x2 + (1 : Int32) := ⟨_, rfl⟩
      have hB := vl_at ex7 hB
      refine lv_iinc (v := x7) (lv' := [(3, .int x7), (0, .ref (ad q)), (1, .long a2), (4, .int x1)]) hx hb dJ7_fill_d0a16_16 hl (k := 2) rfl (by rw [ex7]; rfl) (by decide) rfl (fun ls hl => ?_)
      refine lv_goto (tgt := 6) hx hb dJ7_fill_d0a16_19 (by decide) ?_
      exact hI6 _ (Option.some.inj hB).symm H locs ls hS (lv_sub hl [1, 2, 0, 3] rfl)
  · skip
    intro H locs ls hS hl
    have hS : ST dC dI ad cA s t8 H locs := hS
    have hl : lv_has ls 5 [] := hl
    show W p l e (RM 0 0) s m args below meth c H locs 0 0 Q (F0 m 22 ls [])
    subst hQ
    exact r_vret hx hb hr hK hS hB hlocks dJ7_fill_d0a16_22
set_option maxHeartbeats 4000000 in
set_option maxRecDepth 100000 in
theorem c_X5_spread (l : Launch) (dC : Nat → ClassId) (dI : Nat → Nat → Nat) (ad : Nat → Nat) (cA : Nat → ClassId) (σ : Sg) (kn : Nat) (hkn : kn < 5) (a2 : Int32) (a3 : Int32) (a4 : Int64) (z : Sg) (hB : f_X5_spread σ kn a2 a3 a4 = some z) : Kv l dC dI ad cA yX5_spread wsX5_spread 2 43 [.ref (ad 36), .ref (ad (3 + 4 * kn)), .int a2, .int a3, .long a4] σ z := by
  refine mk_v (cc := cX5_spread) (maxL := 8) (ret := none) (by decide) rfl (Nat.le_of_ble_eq_true rfl) ?_
  intro p e s m args below meth c Q H locs ls ⟨hx, hb, hr, hml, hown, hts, hlocks, hK, hN⟩ hQ hS hl
  have hown : s.vm.findClass RX5 = some m.cls := hown
  have hl : lv_has ls 8 [(0, .ref (ad 36)), (1, .ref (ad (3 + 4 * kn))), (2, .int a2), (3, .int a3), (4, .long a4)] := hl
  have hk_f34 := hts (.fieldLink RX5 34 "ChanceNets$Net" "nodes" "I") (by decide +kernel)
  have hin_X1 : ∀ w ∈ u_ws RX1 TX1 5, w ∈ wsX5_spread := by decide +kernel
  have hk_f15 := hts (.fieldLink RX5 15 "ChanceNets$Walker" "next" "[J") (by decide +kernel)
  have hin_X5 : ∀ w ∈ u_ws RX5 TX5 2, w ∈ wsX5_spread := by decide +kernel
  unfold f_X5_spread at hB
  refine lv_iconst (v := (0 : Int32)) hx hb dX5_spread_0 (by decide) ?_
  refine lv_istore (lv' := [(6, .int (0 : Int32)), (0, .ref (ad 36)), (1, .ref (ad (3 + 4 * kn))), (2, .int a2), (3, .int a3), (4, .long a4)]) hx hb dX5_spread_1 hl (by decide) rfl (fun ls hl => ?_)
  obtain ⟨t14, ht14, hB⟩ := bi_at hB
  refine wl_W (body := fun a => f_X5_spread_B3 kn a2 a3 a4 a.1 a.2) (Hd := fun a : Int32 × Sg => ∀ (H : Heap) (locs : List Loc) (ls : Array Slot), ST dC dI ad cA s a.2 H locs → lv_has ls 8 [(0, .ref (ad 36)), (1, .ref (ad (3 + 4 * kn))), (2, .int a2), (3, .int a3), (4, .long a4), (6, .int a.1)] → W p l e (RM 2 43) s m args below meth c H locs 0 0 Q (F0 m 3 ls [])) (Ex := fun b : Sg => ∀ (H : Heap) (locs : List Loc) (ls : Array Slot), ST dC dI ad cA s b H locs → lv_has ls 8 [] → W p l e (RM 2 43) s m args below meth c H locs 0 0 Q (F0 m 63 ls [])) ?_ FU _ t14 ht14 ?_ H locs ls hS (lv_sub hl [1, 2, 3, 4, 5, 0] rfl)
  · intro a r3 hB hI3 hE3 H locs ls hS hl
    obtain ⟨x1, σ2⟩ := a
    have hB : f_X5_spread_B3 kn a2 a3 a4 x1 σ2 = some r3 := hB
    unfold f_X5_spread_B3 at hB
    have hS : ST dC dI ad cA s σ2 H locs := hS
    have hl : lv_has ls 8 [(0, .ref (ad 36)), (1, .ref (ad (3 + 4 * kn))), (2, .int a2), (3, .int a3), (4, .long a4), (6, .int x1)] := hl
    show W p l e (RM 2 43) s m args below meth c H locs 0 0 Q (F0 m 3 ls [])
    refine lv_iload hx hb dX5_spread_3 (lv_at hl 5 rfl) ?_
    refine lv_aload_n hx hb dX5_spread_5 rfl (lv_at hl 1 rfl) ?_
    refine r_get (v := .int (gI σ2 (4 + 2 * kn))) (C := RX1) (T := TX1) (N := 5) hx hb hts hin_X1 hown hK hS (by omega) (e_net (k := kn) hkn) rfl 0 (by decide) hk_f34 rfl rfl dX5_spread_6 ?_
    refine lv_icmp_ge (tgt := 63) hx hb dX5_spread_9 (by decide) (fun c3 => ?_) (fun c3 => ?_)
    · have hB := it_t c3 hB
      exact hE3 _ (Option.some.inj hB).symm H locs ls hS (lv_sub hl [] rfl)
    · have hB := it_f c3 hB
      refine lv_iload hx hb dX5_spread_12 (lv_at hl 5 rfl) ?_
      refine lv_bipush (v := (64 : Int32)) hx hb dX5_spread_14 (by decide) ?_
      refine lv_imul hx hb dX5_spread_16 ?_
      refine lv_iload_n hx hb dX5_spread_17 rfl (lv_at hl 3 rfl) ?_
      refine lv_iconst (v := (1 : Int32)) hx hb dX5_spread_18 (by decide) ?_
      refine lv_iload hx hb dX5_spread_19 (lv_at hl 5 rfl) ?_
      refine lv_ishl hx hb dX5_spread_21 ?_
      refine lv_ior hx hb dX5_spread_22 ?_
      refine lv_iadd hx hb dX5_spread_23 ?_
      refine lv_topi (fun x4 ex4 => ?_)
      have hB := vl_at ex4 hB
      refine lv_istore (lv' := [(7, .int x4), (0, .ref (ad 36)), (1, .ref (ad (3 + 4 * kn))), (2, .int a2), (3, .int a3), (4, .long a4), (6, .int x1)]) hx hb dX5_spread_24 hl (by decide) rfl (fun ls hl => ?_)
      refine lv_iload hx hb dX5_spread_26 (lv_at hl 0 rfl) ?_
      refine lv_aload_n hx hb dX5_spread_28 rfl (lv_at hl 1 rfl) ?_
      refine r_get (v := .ref (ad (gR σ2 1))) (C := RX5) (T := TX5) (N := 2) hx hb hts hin_X5 hown hK hS (by decide) e_36 rfl 1 (by decide) hk_f15 rfl rfl dX5_spread_29 ?_
      obtain ⟨h5, hB⟩ := gd_at hB
      refine r_alenJ (v := nI (lenJ (gR σ2 1))) hx hb hK hS (of_decide_eq_true h5) rfl dX5_spread_32 ?_
      refine lv_icmp_ge (tgt := 57) hx hb dX5_spread_33 (by decide) (fun c6 => ?_) (fun c6 => ?_)
      · have hB := it_t c6 hB
        obtain ⟨x7, ex7⟩ : ∃ y : Int32, y = x1 + (1 : Int32) := ⟨_, rfl⟩
        have hB := vl_at ex7 hB
        refine lv_iinc (v := x7) (lv' := [(6, .int x7), (7, .int x4), (0, .ref (ad 36)), (1, .ref (ad (3 + 4 * kn))), (2, .int a2), (3, .int a3), (4, .long a4)]) hx hb dX5_spread_57 hl (k := 6) rfl (by rw [ex7]; rfl) (by decide) rfl (fun ls hl => ?_)
        refine lv_goto (tgt := 3) hx hb dX5_spread_60 (by decide) ?_
        exact hI3 _ (Option.some.inj hB).symm H locs ls hS (lv_sub hl [2, 3, 4, 5, 6, 0] rfl)
      · have hB := it_f c6 hB
        refine lv_aload_n hx hb dX5_spread_36 rfl (lv_at hl 1 rfl) ?_
        refine r_get (v := .ref (ad (gR σ2 1))) (C := RX5) (T := TX5) (N := 2) hx hb hts hin_X5 hown hK hS (by decide) e_36 rfl 1 (by decide) hk_f15 rfl rfl dX5_spread_37 ?_
        refine lv_iload hx hb dX5_spread_40 (lv_at hl 0 rfl) ?_
        refine lv_dup2_11 hx hb dX5_spread_42 rfl rfl ?_
        obtain ⟨h8, hB⟩ := gd_at hB
        refine r_lald hx hb hK hS h8 dX5_spread_43 ?_
        refine lv_lload hx hb dX5_spread_44 (lv_at hl 5 rfl) ?_
        refine lv_aload_n hx hb dX5_spread_46 rfl (lv_at hl 2 rfl) ?_
        refine lv_iload_n hx hb dX5_spread_47 rfl (lv_at hl 3 rfl) ?_
        refine lv_iload hx hb dX5_spread_48 (lv_at hl 6 rfl) ?_
        obtain ⟨t9, ht9, hB⟩ := bi_at hB
        refine r_ViP ⟨hx, hb, hml, hown, hts⟩ (c_X1_widthAt l dC dI ad cA σ2 kn hkn a2 x1 t9 ht9) (cwV 2 hts gX5_spread_X1_widthAt rfl rfl rfl (by decide +kernel) ⟨Nat.le_of_ble_eq_true rfl, Nat.le_of_ble_eq_true rfl⟩) hK hN hS (by omega) (e_net (k := kn) hkn) rfl rfl hl.1 rfl (Nat.le_of_ble_eq_true rfl) dX5_spread_50 ⟨Nat.le_refl _, Nat.le_refl _⟩ (fun H locs hS => ?_)
        refine lv_i2l hx hb dX5_spread_53 rfl ?_
        refine lv_lmul hx hb dX5_spread_54 ?_
        refine lv_ladd hx hb dX5_spread_55 ?_
        refine lv_topl (fun x10 ex10 => ?_)
        have hB := vl_at ex10 hB
        obtain ⟨h11, hB⟩ := gd_at hB
        refine r_last hx hb hK hS h11 dX5_spread_56 (fun H locs hS => ?_)
        obtain ⟨σ12, eσ12⟩ : ∃ t : Sg, t = pJ σ2 (gR σ2 1) x4.toNatClampNeg x10 := ⟨_, rfl⟩
        rw [← eσ12] at hS
        have hB := vl_at eσ12 hB
        obtain ⟨x13, ex13⟩ : ∃ y : Int32, y = x1 + (1 : Int32) := ⟨_, rfl⟩
        have hB := vl_at ex13 hB
        refine lv_iinc (v := x13) (lv' := [(6, .int x13), (7, .int x4), (0, .ref (ad 36)), (1, .ref (ad (3 + 4 * kn))), (2, .int a2), (3, .int a3), (4, .long a4)]) hx hb dX5_spread_57 hl (k := 6) rfl (by rw [ex13]; rfl) (by decide) rfl (fun ls hl => ?_)
        refine lv_goto (tgt := 3) hx hb dX5_spread_60 (by decide) ?_
        exact hI3 _ (Option.some.inj hB).symm H locs ls hS (lv_sub hl [2, 3, 4, 5, 6, 0] rfl)
  · skip
    intro H locs ls hS hl
    have hS : ST dC dI ad cA s t14 H locs := hS
    have hl : lv_has ls 8 [] := hl
    show W p l e (RM 2 43) s m args below meth c H locs 0 0 Q (F0 m 63 ls [])
    subst hQ
    exact r_vret hx hb hr hK hS hB hlocks dX5_spread_63
set_option maxHeartbeats 4000000 in
set_option maxRecDepth 100000 in
theorem c_X5_step (l : Launch) (dC : Nat → ClassId) (dI : Nat → Nat → Nat) (ad : Nat → Nat) (cA : Nat → ClassId) (σ : Sg) (kn : Nat) (hkn : kn < 5) (z : Sg) (hB : f_X5_step σ kn = some z) : Kv l dC dI ad cA yX5_step wsX5_step 3 70 [.ref (ad 36), .ref (ad (3 + 4 * kn))] σ z := by
  refine mk_v (cc := cX5_step) (maxL := 6) (ret := none) (by decide) rfl (Nat.le_of_ble_eq_true rfl) ?_
  intro p e s m args below meth c Q H locs ls ⟨hx, hb, hr, hml, hown, hts, hlocks, hK, hN⟩ hQ hS hl
  have hown : s.vm.findClass RX5 = some m.cls := hown
  have hl : lv_has ls 6 [(0, .ref (ad 36)), (1, .ref (ad (3 + 4 * kn)))] := hl
  have hk_f15 := hts (.fieldLink RX5 15 "ChanceNets$Walker" "next" "[J") (by decide +kernel)
  have hin_X5 : ∀ w ∈ u_ws RX5 TX5 2, w ∈ wsX5_step := by decide +kernel
  have hk_f34 := hts (.fieldLink RX5 34 "ChanceNets$Net" "nodes" "I") (by decide +kernel)
  have hin_X1 : ∀ w ∈ u_ws RX1 TX1 5, w ∈ wsX5_step := by decide +kernel
  have hk_f11 := hts (.fieldLink RX5 11 "ChanceNets$Walker" "here" "[J") (by decide +kernel)
  unfold f_X5_step at hB
  refine lv_aload_n hx hb dX5_step_0 rfl (lv_at hl 0 rfl) ?_
  refine r_get (v := .ref (ad (gR σ 1))) (C := RX5) (T := TX5) (N := 2) hx hb hts hin_X5 hown hK hS (by decide) e_36 rfl 1 (by decide) hk_f15 rfl rfl dX5_step_1 ?_
  refine lv_lconst (v := (0 : Int64)) hx hb dX5_step_4 (by decide) ?_
  obtain ⟨h1, hB⟩ := gd_at hB
  obtain ⟨t2, ht2, hB⟩ := bi_at hB
  refine r_Sv ⟨hx, hb, hml, hown, hts⟩ (c_J7_fill_d0a16 l dC dI ad cA σ (gR σ 1) (of_decide_eq_true h1) (0 : Int64) t2 ht2) (va_cwS 2 hts gX5_step_J7_fill_d0a16 rfl rfl rfl (by decide +kernel) ⟨Nat.le_of_ble_eq_true rfl, Nat.le_of_ble_eq_true rfl⟩) hK hN hS rfl hl.1 rfl (Nat.le_of_ble_eq_true rfl) dX5_step_5 ⟨Nat.le_refl _, Nat.le_refl _⟩ (fun H locs hS => ?_)
  refine lv_iconst (v := (0 : Int32)) hx hb dX5_step_8 (by decide) ?_
  refine lv_istore_n (lv' := [(2, .int (0 : Int32)), (0, .ref (ad 36)), (1, .ref (ad (3 + 4 * kn)))]) hx hb dX5_step_9 rfl hl (by decide) rfl (fun ls hl => ?_)
  obtain ⟨t17, ht17, hB⟩ := bi_at hB
  refine wl_W (body := fun a => f_X5_step_B10 kn a.1 a.2) (Hd := fun a : Int32 × Sg => ∀ (H : Heap) (locs : List Loc) (ls : Array Slot), ST dC dI ad cA s a.2 H locs → lv_has ls 6 [(0, .ref (ad 36)), (1, .ref (ad (3 + 4 * kn))), (2, .int a.1)] → W p l e (RM 3 70) s m args below meth c H locs 0 0 Q (F0 m 10 ls [])) (Ex := fun b : Sg => ∀ (H : Heap) (locs : List Loc) (ls : Array Slot), ST dC dI ad cA s b H locs → lv_has ls 6 [(0, .ref (ad 36))] → W p l e (RM 3 70) s m args below meth c H locs 0 0 Q (F0 m 71 ls [])) ?_ FU _ t17 ht17 ?_ H locs ls hS (lv_sub hl [1, 2, 0] rfl)
  · intro a r10 hB hI10 hE10 H locs ls hS hl
    obtain ⟨x3, σ4⟩ := a
    have hB : f_X5_step_B10 kn x3 σ4 = some r10 := hB
    unfold f_X5_step_B10 at hB
    have hS : ST dC dI ad cA s σ4 H locs := hS
    have hl : lv_has ls 6 [(0, .ref (ad 36)), (1, .ref (ad (3 + 4 * kn))), (2, .int x3)] := hl
    show W p l e (RM 3 70) s m args below meth c H locs 0 0 Q (F0 m 10 ls [])
    refine lv_iload_n hx hb dX5_step_10 rfl (lv_at hl 2 rfl) ?_
    refine lv_aload_n hx hb dX5_step_11 rfl (lv_at hl 1 rfl) ?_
    refine r_get (v := .int (gI σ4 (4 + 2 * kn))) (C := RX1) (T := TX1) (N := 5) hx hb hts hin_X1 hown hK hS (by omega) (e_net (k := kn) hkn) rfl 0 (by decide) hk_f34 rfl rfl dX5_step_12 ?_
    refine lv_icmp_ge (tgt := 71) hx hb dX5_step_15 (by decide) (fun c5 => ?_) (fun c5 => ?_)
    · have hB := it_t c5 hB
      exact hE10 _ (Option.some.inj hB).symm H locs ls hS (lv_sub hl [0] rfl)
    · have hB := it_f c5 hB
      refine lv_iconst (v := (0 : Int32)) hx hb dX5_step_18 (by decide) ?_
      refine lv_istore_n (lv' := [(3, .int (0 : Int32)), (0, .ref (ad 36)), (1, .ref (ad (3 + 4 * kn))), (2, .int x3)]) hx hb dX5_step_19 rfl hl (by decide) rfl (fun ls hl => ?_)
      obtain ⟨t15, ht15, hB⟩ := bi_at hB
      refine wl_W (body := fun a => f_X5_step_B20 kn x3 a.1 a.2) (Hd := fun a : Int32 × Sg => ∀ (H : Heap) (locs : List Loc) (ls : Array Slot), ST dC dI ad cA s a.2 H locs → lv_has ls 6 [(0, .ref (ad 36)), (1, .ref (ad (3 + 4 * kn))), (2, .int x3), (3, .int a.1)] → W p l e (RM 3 70) s m args below meth c H locs 0 0 Q (F0 m 20 ls [])) (Ex := fun b : Sg => ∀ (H : Heap) (locs : List Loc) (ls : Array Slot), ST dC dI ad cA s b H locs → lv_has ls 6 [(0, .ref (ad 36)), (1, .ref (ad (3 + 4 * kn))), (2, .int x3)] → W p l e (RM 3 70) s m args below meth c H locs 0 0 Q (F0 m 65 ls [])) ?_ FU _ t15 ht15 ?_ H locs ls hS (lv_sub hl [1, 2, 3, 0] rfl)
      · intro a r20 hB hI20 hE20 H locs ls hS hl
        obtain ⟨x6, σ7⟩ := a
        have hB : f_X5_step_B20 kn x3 x6 σ7 = some r20 := hB
        unfold f_X5_step_B20 at hB
        have hS : ST dC dI ad cA s σ7 H locs := hS
        have hl : lv_has ls 6 [(0, .ref (ad 36)), (1, .ref (ad (3 + 4 * kn))), (2, .int x3), (3, .int x6)] := hl
        show W p l e (RM 3 70) s m args below meth c H locs 0 0 Q (F0 m 20 ls [])
        refine lv_iload_n hx hb dX5_step_20 rfl (lv_at hl 3 rfl) ?_
        refine lv_iconst (v := (1 : Int32)) hx hb dX5_step_21 (by decide) ?_
        refine lv_aload_n hx hb dX5_step_22 rfl (lv_at hl 1 rfl) ?_
        refine r_get (v := .int (gI σ7 (4 + 2 * kn))) (C := RX1) (T := TX1) (N := 5) hx hb hts hin_X1 hown hK hS (by omega) (e_net (k := kn) hkn) rfl 0 (by decide) hk_f34 rfl rfl dX5_step_23 ?_
        refine lv_ishl hx hb dX5_step_26 ?_
        refine lv_icmp_ge (tgt := 65) hx hb dX5_step_27 (by decide) (fun c8 => ?_) (fun c8 => ?_)
        · have hB := it_t c8 hB
          exact hE20 _ (Option.some.inj hB).symm H locs ls hS (lv_sub hl [0, 1, 2] rfl)
        · have hB := it_f c8 hB
          refine lv_aload_n hx hb dX5_step_30 rfl (lv_at hl 0 rfl) ?_
          refine r_get (v := .ref (ad (gR σ7 0))) (C := RX5) (T := TX5) (N := 2) hx hb hts hin_X5 hown hK hS (by decide) e_36 rfl 0 (by decide) hk_f11 rfl rfl dX5_step_31 ?_
          refine lv_iload_n hx hb dX5_step_34 rfl (lv_at hl 2 rfl) ?_
          refine lv_bipush (v := (64 : Int32)) hx hb dX5_step_35 (by decide) ?_
          refine lv_imul hx hb dX5_step_37 ?_
          refine lv_iload_n hx hb dX5_step_38 rfl (lv_at hl 3 rfl) ?_
          refine lv_iadd hx hb dX5_step_39 ?_
          obtain ⟨h9, hB⟩ := gd_at hB
          refine r_lald hx hb hK hS h9 dX5_step_40 ?_
          refine lv_topl (fun x10 ex10 => ?_)
          have hB := vl_at ex10 hB
          refine lv_lstore (lv' := [(4, .long x10), (0, .ref (ad 36)), (1, .ref (ad (3 + 4 * kn))), (2, .int x3), (3, .int x6)]) hx hb dX5_step_41 hl (by decide) rfl (fun ls hl => ?_)
          refine lv_lload hx hb dX5_step_43 (lv_at hl 0 rfl) ?_
          refine lv_lconst (v := (0 : Int64)) hx hb dX5_step_45 (by decide) ?_
          refine W.lcmp hx hb dX5_step_46 ?_
          refine lv_if_eq (tgt := 59) hx hb dX5_step_47 (by decide) (fun c11 => ?_) (fun c11 => ?_)
          · have hB := it_t ((lg_cmp_eq _ _).mp c11) hB
            obtain ⟨x12, ex12⟩ : ∃ y : Int32, y = x6 + (1 : Int32) := ⟨_, rfl⟩
            have hB := vl_at ex12 hB
            refine lv_iinc (v := x12) (lv' := [(3, .int x12), (4, .long x10), (0, .ref (ad 36)), (1, .ref (ad (3 + 4 * kn))), (2, .int x3)]) hx hb dX5_step_59 hl (k := 4) rfl (by rw [ex12]; rfl) (by decide) rfl (fun ls hl => ?_)
            refine lv_goto (tgt := 20) hx hb dX5_step_62 (by decide) ?_
            exact hI20 _ (Option.some.inj hB).symm H locs ls hS (lv_sub hl [2, 3, 4, 0] rfl)
          · have hB := it_f (fun q => c11 ((lg_cmp_eq _ _).mpr q)) hB
            refine lv_aload_n hx hb dX5_step_50 rfl (lv_at hl 1 rfl) ?_
            refine lv_aload_n hx hb dX5_step_51 rfl (lv_at hl 2 rfl) ?_
            refine lv_iload_n hx hb dX5_step_52 rfl (lv_at hl 3 rfl) ?_
            refine lv_iload_n hx hb dX5_step_53 rfl (lv_at hl 4 rfl) ?_
            refine lv_lload hx hb dX5_step_54 (lv_at hl 0 rfl) ?_
            obtain ⟨t13, ht13, hB⟩ := bi_at hB
            refine r_Vv ⟨hx, hb, hml, hown, hts⟩ (c_X5_spread l dC dI ad cA σ7 kn hkn x3 x6 x10 t13 ht13) (cwV 4 hts gX5_step_X5_spread rfl rfl rfl (by decide +kernel) ⟨Nat.le_of_ble_eq_true rfl, Nat.le_of_ble_eq_true rfl⟩) hK hN hS (by decide) e_36 rfl rfl hl.1 rfl (Nat.le_of_ble_eq_true rfl) dX5_step_56 ⟨Nat.le_refl _, Nat.le_refl _⟩ (fun H locs hS => ?_)
            obtain ⟨x14, ex14⟩ : ∃ y : Int32, y = x6 + (1 : Int32) := ⟨_, rfl⟩
            have hB := vl_at ex14 hB
            refine lv_iinc (v := x14) (lv' := [(3, .int x14), (4, .long x10), (0, .ref (ad 36)), (1, .ref (ad (3 + 4 * kn))), (2, .int x3)]) hx hb dX5_step_59 hl (k := 4) rfl (by rw [ex14]; rfl) (by decide) rfl (fun ls hl => ?_)
            refine lv_goto (tgt := 20) hx hb dX5_step_62 (by decide) ?_
            exact hI20 _ (Option.some.inj hB).symm H locs ls hS (lv_sub hl [2, 3, 4, 0] rfl)
      · skip
        intro H locs ls hS hl
        have hS : ST dC dI ad cA s t15 H locs := hS
        have hl : lv_has ls 6 [(0, .ref (ad 36)), (1, .ref (ad (3 + 4 * kn))), (2, .int x3)] := hl
        show W p l e (RM 3 70) s m args below meth c H locs 0 0 Q (F0 m 65 ls [])
        obtain ⟨x16, ex16⟩ : ∃ y : Int32, y = x3 + (1 : Int32) := ⟨_, rfl⟩
        have hB := vl_at ex16 hB
        refine lv_iinc (v := x16) (lv' := [(2, .int x16), (0, .ref (ad 36)), (1, .ref (ad (3 + 4 * kn)))]) hx hb dX5_step_65 hl (k := 2) rfl (by rw [ex16]; rfl) (by decide) rfl (fun ls hl => ?_)
        refine lv_goto (tgt := 10) hx hb dX5_step_68 (by decide) ?_
        exact hI10 _ (Option.some.inj hB).symm H locs ls hS (lv_sub hl [1, 2, 0] rfl)
  · skip
    intro H locs ls hS hl
    have hS : ST dC dI ad cA s t17 H locs := hS
    have hl : lv_has ls 6 [(0, .ref (ad 36))] := hl
    show W p l e (RM 3 70) s m args below meth c H locs 0 0 Q (F0 m 71 ls [])
    refine lv_aload_n hx hb dX5_step_71 rfl (lv_at hl 0 rfl) ?_
    refine r_get (v := .ref (ad (gR t17 0))) (C := RX5) (T := TX5) (N := 2) hx hb hts hin_X5 hown hK hS (by decide) e_36 rfl 0 (by decide) hk_f11 rfl rfl dX5_step_72 ?_
    refine lv_astore_n (lv' := [(2, .ref (ad (gR t17 0))), (0, .ref (ad 36))]) hx hb dX5_step_75 rfl hl (by decide) rfl (fun ls hl => ?_)
    refine lv_aload_n hx hb dX5_step_76 rfl (lv_at hl 1 rfl) ?_
    refine lv_aload_n hx hb dX5_step_77 rfl (lv_at hl 1 rfl) ?_
    refine r_get (v := .ref (ad (gR t17 1))) (C := RX5) (T := TX5) (N := 2) hx hb hts hin_X5 hown hK hS (by decide) e_36 rfl 1 (by decide) hk_f15 rfl rfl dX5_step_78 ?_
    refine r_put (σ' := pR t17 0 (gR t17 1)) (v := .ref (ad (gR t17 1))) (C := RX5) (T := TX5) (N := 2) hx hb hts hin_X5 tyX5 tyX5_ok nmX5 hown hK hS (by decide) e_36 rfl 0 (by decide) hk_f11 rfl rfl rfl rfl (Nat.le_of_ble_eq_true rfl) (fun d _ h => eR d h) rfl dX5_step_81 (fun H locs hS => ?_)
    obtain ⟨σ18, eσ18⟩ : ∃ t : Sg, t = pR t17 0 (gR t17 1) := ⟨_, rfl⟩
    rw [← eσ18] at hS
    have hB := vl_at eσ18 hB
    refine lv_aload_n hx hb dX5_step_84 rfl (lv_at hl 1 rfl) ?_
    refine lv_aload_n hx hb dX5_step_85 rfl (lv_at hl 0 rfl) ?_
    refine r_put (σ' := pR σ18 1 (gR t17 0)) (v := .ref (ad (gR t17 0))) (C := RX5) (T := TX5) (N := 2) hx hb hts hin_X5 tyX5 tyX5_ok nmX5 hown hK hS (by decide) e_36 rfl 1 (by decide) hk_f15 rfl rfl rfl rfl (Nat.le_of_ble_eq_true rfl) (fun d _ h => eR d h) rfl dX5_step_86 (fun H locs hS => ?_)
    obtain ⟨σ19, eσ19⟩ : ∃ t : Sg, t = pR σ18 1 (gR t17 0) := ⟨_, rfl⟩
    rw [← eσ19] at hS
    have hB := vl_at eσ19 hB
    subst hQ
    exact r_vret hx hb hr hK hS hB hlocks dX5_step_89
set_option maxHeartbeats 4000000 in
set_option maxRecDepth 100000 in
theorem c_X5_goes (l : Launch) (dC : Nat → ClassId) (dI : Nat → Nat → Nat) (ad : Nat → Nat) (cA : Nat → ClassId) (σ : Sg) (kn : Nat) (hkn : kn < 5) (a2 : Int32) (a3 : Int32) (z : Sg) (hB : f_X5_goes σ kn a2 a3 = some z) : Kv l dC dI ad cA yX5_goes wsX5_goes 4 95 [.ref (ad 36), .ref (ad (3 + 4 * kn)), .int a2, .int a3] σ z := by
  refine mk_v (cc := cX5_goes) (maxL := 5) (ret := none) (by decide) rfl (Nat.le_of_ble_eq_true rfl) ?_
  intro p e s m args below meth c Q H locs ls ⟨hx, hb, hr, hml, hown, hts, hlocks, hK, hN⟩ hQ hS hl
  have hown : s.vm.findClass RX5 = some m.cls := hown
  have hl : lv_has ls 5 [(0, .ref (ad 36)), (1, .ref (ad (3 + 4 * kn))), (2, .int a2), (3, .int a3)] := hl
  have hk_f11 := hts (.fieldLink RX5 11 "ChanceNets$Walker" "here" "[J") (by decide +kernel)
  have hin_X5 : ∀ w ∈ u_ws RX5 TX5 2, w ∈ wsX5_goes := by decide +kernel
  unfold f_X5_goes at hB
  refine lv_aload_n hx hb dX5_goes_0 rfl (lv_at hl 0 rfl) ?_
  refine r_get (v := .ref (ad (gR σ 0))) (C := RX5) (T := TX5) (N := 2) hx hb hts hin_X5 hown hK hS (by decide) e_36 rfl 0 (by decide) hk_f11 rfl rfl dX5_goes_1 ?_
  refine lv_lconst (v := (0 : Int64)) hx hb dX5_goes_4 (by decide) ?_
  obtain ⟨h1, hB⟩ := gd_at hB
  obtain ⟨t2, ht2, hB⟩ := bi_at hB
  refine r_Sv ⟨hx, hb, hml, hown, hts⟩ (c_J7_fill_d0a16 l dC dI ad cA σ (gR σ 0) (of_decide_eq_true h1) (0 : Int64) t2 ht2) (va_cwS 2 hts gX5_goes_J7_fill_d0a16 rfl rfl rfl (by decide +kernel) ⟨Nat.le_of_ble_eq_true rfl, Nat.le_of_ble_eq_true rfl⟩) hK hN hS rfl hl.1 rfl (Nat.le_of_ble_eq_true rfl) dX5_goes_5 ⟨Nat.le_refl _, Nat.le_refl _⟩ (fun H locs hS => ?_)
  refine lv_aload_n hx hb dX5_goes_8 rfl (lv_at hl 1 rfl) ?_
  refine lv_iload_n hx hb dX5_goes_9 rfl (lv_at hl 2 rfl) ?_
  obtain ⟨t3, ht3, hB⟩ := bi_at hB
  refine r_ViP ⟨hx, hb, hml, hown, hts⟩ (c_X1_hasNode l dC dI ad cA t2 kn hkn a2 t3 ht3) (cwV 1 hts gX5_goes_X1_hasNode rfl rfl rfl (by decide +kernel) ⟨Nat.le_of_ble_eq_true rfl, Nat.le_of_ble_eq_true rfl⟩) hK hN hS (by omega) (e_net (k := kn) hkn) rfl rfl hl.1 rfl (Nat.le_of_ble_eq_true rfl) dX5_goes_10 ⟨Nat.le_refl _, Nat.le_refl _⟩ (fun H locs hS => ?_)
  refine lv_if_ne (tgt := 17) hx hb dX5_goes_13 (by decide) (fun c4 => ?_) (fun c4 => ?_)
  · have hB := it_f c4 hB
    refine lv_aload_n hx hb dX5_goes_17 rfl (lv_at hl 0 rfl) ?_
    refine r_get (v := .ref (ad (gR t2 0))) (C := RX5) (T := TX5) (N := 2) hx hb hts hin_X5 hown hK hS (by decide) e_36 rfl 0 (by decide) hk_f11 rfl rfl dX5_goes_18 ?_
    refine lv_iload_n hx hb dX5_goes_21 rfl (lv_at hl 2 rfl) ?_
    refine lv_bipush (v := (64 : Int32)) hx hb dX5_goes_22 (by decide) ?_
    refine lv_imul hx hb dX5_goes_24 ?_
    refine lv_iconst (v := (1 : Int32)) hx hb dX5_goes_25 (by decide) ?_
    refine lv_iload_n hx hb dX5_goes_26 rfl (lv_at hl 2 rfl) ?_
    refine lv_ishl hx hb dX5_goes_27 ?_
    refine lv_iadd hx hb dX5_goes_28 ?_
    refine lv_lconst (v := (1 : Int64)) hx hb dX5_goes_29 (by decide) ?_
    obtain ⟨h5, hB⟩ := gd_at hB
    refine r_last hx hb hK hS h5 dX5_goes_30 (fun H locs hS => ?_)
    obtain ⟨σ6, eσ6⟩ : ∃ t : Sg, t = pJ t2 (gR t2 0) ((a2 * (64 : Int32)) + ((1 : Int32) <<< (a2 &&& 31))).toNatClampNeg (1 : Int64) := ⟨_, rfl⟩
    rw [← eσ6] at hS
    have hB := vl_at eσ6 hB
    refine lv_iconst (v := (0 : Int32)) hx hb dX5_goes_31 (by decide) ?_
    refine lv_istore (lv' := [(4, .int (0 : Int32)), (0, .ref (ad 36)), (1, .ref (ad (3 + 4 * kn))), (2, .int a2), (3, .int a3)]) hx hb dX5_goes_32 hl (by decide) rfl (fun ls hl => ?_)
    obtain ⟨t12, ht12, hB⟩ := bi_at hB
    refine wl_W (body := fun a => f_X5_goes_B34 kn a3 a.1 a.2) (Hd := fun a : Int32 × Sg => ∀ (H : Heap) (locs : List Loc) (ls : Array Slot), ST dC dI ad cA s a.2 H locs → lv_has ls 5 [(0, .ref (ad 36)), (1, .ref (ad (3 + 4 * kn))), (3, .int a3), (4, .int a.1)] → W p l e (RM 4 95) s m args below meth c H locs 0 0 Q (F0 m 34 ls [])) (Ex := fun b : Sg => ∀ (H : Heap) (locs : List Loc) (ls : Array Slot), ST dC dI ad cA s b H locs → lv_has ls 5 [] → W p l e (RM 4 95) s m args below meth c H locs 0 0 Q (F0 m 51 ls [])) ?_ FU _ t12 ht12 ?_ H locs ls hS (lv_sub hl [1, 2, 4, 0] rfl)
    · intro a r34 hB hI34 hE34 H locs ls hS hl
      obtain ⟨x7, σ8⟩ := a
      have hB : f_X5_goes_B34 kn a3 x7 σ8 = some r34 := hB
      unfold f_X5_goes_B34 at hB
      have hS : ST dC dI ad cA s σ8 H locs := hS
      have hl : lv_has ls 5 [(0, .ref (ad 36)), (1, .ref (ad (3 + 4 * kn))), (3, .int a3), (4, .int x7)] := hl
      show W p l e (RM 4 95) s m args below meth c H locs 0 0 Q (F0 m 34 ls [])
      refine lv_iload hx hb dX5_goes_34 (lv_at hl 3 rfl) ?_
      refine lv_iload_n hx hb dX5_goes_36 rfl (lv_at hl 2 rfl) ?_
      refine lv_icmp_ge (tgt := 51) hx hb dX5_goes_37 (by decide) (fun c9 => ?_) (fun c9 => ?_)
      · have hB := it_t c9 hB
        exact hE34 _ (Option.some.inj hB).symm H locs ls hS (lv_sub hl [] rfl)
      · have hB := it_f c9 hB
        refine lv_aload_n hx hb dX5_goes_40 rfl (lv_at hl 0 rfl) ?_
        refine lv_aload_n hx hb dX5_goes_41 rfl (lv_at hl 1 rfl) ?_
        obtain ⟨t10, ht10, hB⟩ := bi_at hB
        refine r_Vv ⟨hx, hb, hml, hown, hts⟩ (c_X5_step l dC dI ad cA σ8 kn hkn t10 ht10) (cwV 1 hts gX5_goes_X5_step rfl rfl rfl (by decide +kernel) ⟨Nat.le_of_ble_eq_true rfl, Nat.le_of_ble_eq_true rfl⟩) hK hN hS (by decide) e_36 rfl rfl hl.1 rfl (Nat.le_of_ble_eq_true rfl) dX5_goes_42 ⟨Nat.le_refl _, Nat.le_refl _⟩ (fun H locs hS => ?_)
        obtain ⟨x11, ex11⟩ : ∃ y : Int32, y = x7 + (1 : Int32) := ⟨_, rfl⟩
        have hB := vl_at ex11 hB
        refine lv_iinc (v := x11) (lv' := [(4, .int x11), (0, .ref (ad 36)), (1, .ref (ad (3 + 4 * kn))), (3, .int a3)]) hx hb dX5_goes_45 hl (k := 3) rfl (by rw [ex11]; rfl) (by decide) rfl (fun ls hl => ?_)
        refine lv_goto (tgt := 34) hx hb dX5_goes_48 (by decide) ?_
        exact hI34 _ (Option.some.inj hB).symm H locs ls hS (lv_sub hl [1, 2, 3, 0] rfl)
    · skip
      intro H locs ls hS hl
      have hS : ST dC dI ad cA s t12 H locs := hS
      have hl : lv_has ls 5 [] := hl
      show W p l e (RM 4 95) s m args below meth c H locs 0 0 Q (F0 m 51 ls [])
      subst hQ
      exact r_vret hx hb hr hK hS hB hlocks dX5_goes_51
  · have hB := it_t c4 hB
    subst hQ
    exact r_vret hx hb hr hK hS hB hlocks dX5_goes_16
set_option maxHeartbeats 4000000 in
set_option maxRecDepth 100000 in
theorem c_X5_sum (l : Launch) (dC : Nat → ClassId) (dI : Nat → Nat → Nat) (ad : Nat → Nat) (cA : Nat → ClassId) (σ : Sg) (kn : Nat) (hkn : kn < 5) (a2 : Int32) (a3 : Int32) (z : Int64) (hB : f_X5_sum σ kn a2 a3 = some z) : Kl l dC dI ad cA yX5_sum wsX5_sum 0 0 [.ref (ad 36), .ref (ad (3 + 4 * kn)), .int a2, .int a3] σ (z, σ) := by
  refine mk_l (cc := cX5_sum) (maxL := 9) (ret := (some .long)) (by decide) rfl (Nat.le_of_ble_eq_true rfl) ?_
  intro p e s m args below meth c Q H locs ls ⟨hx, hb, hr, hml, hown, hts, hlocks, hK, hN⟩ hQ hS hl
  have hown : s.vm.findClass RX5 = some m.cls := hown
  have hl : lv_has ls 9 [(0, .ref (ad 36)), (1, .ref (ad (3 + 4 * kn))), (2, .int a2), (3, .int a3)] := hl
  have hk_f34 := hts (.fieldLink RX5 34 "ChanceNets$Net" "nodes" "I") (by decide +kernel)
  have hin_X1 : ∀ w ∈ u_ws RX1 TX1 5, w ∈ wsX5_sum := by decide +kernel
  have hk_f11 := hts (.fieldLink RX5 11 "ChanceNets$Walker" "here" "[J") (by decide +kernel)
  have hin_X5 : ∀ w ∈ u_ws RX5 TX5 2, w ∈ wsX5_sum := by decide +kernel
  unfold f_X5_sum at hB
  refine lv_lconst (v := (0 : Int64)) hx hb dX5_sum_0 (by decide) ?_
  refine lv_lstore (lv' := [(4, .long (0 : Int64)), (0, .ref (ad 36)), (1, .ref (ad (3 + 4 * kn))), (2, .int a2), (3, .int a3)]) hx hb dX5_sum_1 hl (by decide) rfl (fun ls hl => ?_)
  refine lv_iconst (v := (1 : Int32)) hx hb dX5_sum_3 (by decide) ?_
  refine lv_aload_n hx hb dX5_sum_4 rfl (lv_at hl 2 rfl) ?_
  refine r_get (v := .int (gI σ (4 + 2 * kn))) (C := RX1) (T := TX1) (N := 5) hx hb hts hin_X1 hown hK hS (by omega) (e_net (k := kn) hkn) rfl 0 (by decide) hk_f34 rfl rfl dX5_sum_5 ?_
  refine lv_ishl hx hb dX5_sum_8 ?_
  refine lv_iconst (v := (1 : Int32)) hx hb dX5_sum_9 (by decide) ?_
  refine lv_isub hx hb dX5_sum_10 ?_
  refine lv_topi (fun x1 ex1 => ?_)
  have hB := vl_at ex1 hB
  refine lv_istore (lv' := [(6, .int x1), (4, .long (0 : Int64)), (0, .ref (ad 36)), (1, .ref (ad (3 + 4 * kn))), (2, .int a2), (3, .int a3)]) hx hb dX5_sum_11 hl (by decide) rfl (fun ls hl => ?_)
  refine lv_iconst (v := (0 : Int32)) hx hb dX5_sum_13 (by decide) ?_
  refine lv_istore (lv' := [(7, .int (0 : Int32)), (6, .int x1), (4, .long (0 : Int64)), (0, .ref (ad 36)), (1, .ref (ad (3 + 4 * kn))), (2, .int a2), (3, .int a3)]) hx hb dX5_sum_14 hl (by decide) rfl (fun ls hl => ?_)
  obtain ⟨t20, ht20, hB⟩ := bi_at hB
  refine wl_W (body := fun a => f_X5_sum_B16 σ kn a2 a3 x1 a.1 a.2) (Hd := fun a : Int64 × Int32 => ∀ (H : Heap) (locs : List Loc) (ls : Array Slot), ST dC dI ad cA s σ H locs → lv_has ls 9 [(0, .ref (ad 36)), (1, .ref (ad (3 + 4 * kn))), (2, .int a2), (3, .int a3), (4, .long a.1), (6, .int x1), (7, .int a.2)] → W p l e (RM 0 0) s m args below meth c H locs 0 0 Q (F0 m 16 ls [])) (Ex := fun b : Int64 => ∀ (H : Heap) (locs : List Loc) (ls : Array Slot), ST dC dI ad cA s σ H locs → lv_has ls 9 [(4, .long b)] → W p l e (RM 0 0) s m args below meth c H locs 0 0 Q (F0 m 92 ls [])) ?_ FU _ t20 ht20 ?_ H locs ls hS (lv_sub hl [3, 4, 5, 6, 2, 1, 0] rfl)
  · intro a r16 hB hI16 hE16 H locs ls hS hl
    obtain ⟨x2, x3⟩ := a
    have hB : f_X5_sum_B16 σ kn a2 a3 x1 x2 x3 = some r16 := hB
    unfold f_X5_sum_B16 at hB
    have hS : ST dC dI ad cA s σ H locs := hS
    have hl : lv_has ls 9 [(0, .ref (ad 36)), (1, .ref (ad (3 + 4 * kn))), (2, .int a2), (3, .int a3), (4, .long x2), (6, .int x1), (7, .int x3)] := hl
    show W p l e (RM 0 0) s m args below meth c H locs 0 0 Q (F0 m 16 ls [])
    refine lv_iload hx hb dX5_sum_16 (lv_at hl 6 rfl) ?_
    refine lv_aload_n hx hb dX5_sum_18 rfl (lv_at hl 1 rfl) ?_
    refine r_get (v := .int (gI σ (4 + 2 * kn))) (C := RX1) (T := TX1) (N := 5) hx hb hts hin_X1 hown hK hS (by omega) (e_net (k := kn) hkn) rfl 0 (by decide) hk_f34 rfl rfl dX5_sum_19 ?_
    refine lv_icmp_ge (tgt := 92) hx hb dX5_sum_22 (by decide) (fun c4 => ?_) (fun c4 => ?_)
    · have hB := it_t c4 hB
      exact hE16 _ (Option.some.inj hB).symm H locs ls hS (lv_sub hl [4] rfl)
    · have hB := it_f c4 hB
      refine lv_iconst (v := (0 : Int32)) hx hb dX5_sum_25 (by decide) ?_
      refine lv_istore (lv' := [(8, .int (0 : Int32)), (0, .ref (ad 36)), (1, .ref (ad (3 + 4 * kn))), (2, .int a2), (3, .int a3), (4, .long x2), (6, .int x1), (7, .int x3)]) hx hb dX5_sum_26 hl (by decide) rfl (fun ls hl => ?_)
      obtain ⟨t18, ht18, hB⟩ := bi_at hB
      refine wl_W (body := fun a => f_X5_sum_B28 σ a2 a3 x1 x3 a.1 a.2) (Hd := fun a : Int64 × Int32 => ∀ (H : Heap) (locs : List Loc) (ls : Array Slot), ST dC dI ad cA s σ H locs → lv_has ls 9 [(0, .ref (ad 36)), (1, .ref (ad (3 + 4 * kn))), (2, .int a2), (3, .int a3), (4, .long a.1), (6, .int x1), (7, .int x3), (8, .int a.2)] → W p l e (RM 0 0) s m args below meth c H locs 0 0 Q (F0 m 28 ls [])) (Ex := fun b : Int64 => ∀ (H : Heap) (locs : List Loc) (ls : Array Slot), ST dC dI ad cA s σ H locs → lv_has ls 9 [(0, .ref (ad 36)), (1, .ref (ad (3 + 4 * kn))), (2, .int a2), (3, .int a3), (4, .long b), (6, .int x1), (7, .int x3)] → W p l e (RM 0 0) s m args below meth c H locs 0 0 Q (F0 m 86 ls [])) ?_ FU _ t18 ht18 ?_ H locs ls hS (lv_sub hl [1, 2, 3, 4, 5, 6, 7, 0] rfl)
      · intro a r28 hB hI28 hE28 H locs ls hS hl
        obtain ⟨x5, x6⟩ := a
        have hB : f_X5_sum_B28 σ a2 a3 x1 x3 x5 x6 = some r28 := hB
        unfold f_X5_sum_B28 at hB
        have hS : ST dC dI ad cA s σ H locs := hS
        have hl : lv_has ls 9 [(0, .ref (ad 36)), (1, .ref (ad (3 + 4 * kn))), (2, .int a2), (3, .int a3), (4, .long x5), (6, .int x1), (7, .int x3), (8, .int x6)] := hl
        show W p l e (RM 0 0) s m args below meth c H locs 0 0 Q (F0 m 28 ls [])
        refine lv_iload hx hb dX5_sum_28 (lv_at hl 7 rfl) ?_
        refine lv_iload hx hb dX5_sum_30 (lv_at hl 5 rfl) ?_
        refine lv_icmp_gt (tgt := 86) hx hb dX5_sum_32 (by decide) (fun c7 => ?_) (fun c7 => ?_)
        · have hB := it_t c7 hB
          exact hE28 _ (Option.some.inj hB).symm H locs ls hS (lv_sub hl [0, 1, 2, 3, 4, 5, 6] rfl)
        · have hB := it_f c7 hB
          refine lv_iload_n hx hb dX5_sum_35 rfl (lv_at hl 3 rfl) ?_
          have hJ62 : ∀ (H : Heap) (locs : List Loc) (ls : Array Slot), f_X5_sum_J62 σ x3 x5 x6 = some r28 → ST dC dI ad cA s σ H locs → lv_has ls 9 [(0, .ref (ad 36)), (1, .ref (ad (3 + 4 * kn))), (2, .int a2), (3, .int a3), (4, .long x5), (6, .int x1), (7, .int x3), (8, .int x6)] → W p l e (RM 0 0) s m args below meth c H locs 0 0 Q (F0 m 62 ls []) := by
            intro H locs ls hB hS hl
            unfold f_X5_sum_J62 at hB
            refine lv_lload hx hb dX5_sum_62 (lv_at hl 4 rfl) ?_
            refine lv_aload_n hx hb dX5_sum_64 rfl (lv_at hl 0 rfl) ?_
            refine r_get (v := .ref (ad (gR σ 0))) (C := RX5) (T := TX5) (N := 2) hx hb hts hin_X5 hown hK hS (by decide) e_36 rfl 0 (by decide) hk_f11 rfl rfl dX5_sum_65 ?_
            refine lv_iload hx hb dX5_sum_68 (lv_at hl 6 rfl) ?_
            refine lv_bipush (v := (64 : Int32)) hx hb dX5_sum_70 (by decide) ?_
            refine lv_imul hx hb dX5_sum_72 ?_
            refine lv_iload hx hb dX5_sum_73 (lv_at hl 7 rfl) ?_
            refine lv_iadd hx hb dX5_sum_75 ?_
            obtain ⟨h8, hB⟩ := gd_at hB
            refine r_lald hx hb hK hS h8 dX5_sum_76 ?_
            refine lv_ladd hx hb dX5_sum_77 ?_
            refine lv_topl (fun x9 ex9 => ?_)
            have hB := vl_at ex9 hB
            refine lv_lstore (lv' := [(4, .long x9), (0, .ref (ad 36)), (1, .ref (ad (3 + 4 * kn))), (2, .int a2), (3, .int a3), (6, .int x1), (7, .int x3), (8, .int x6)]) hx hb dX5_sum_78 hl (by decide) rfl (fun ls hl => ?_)
            obtain ⟨x10, ex10⟩ : ∃ y : Int32, y = x6 + (1 : Int32) := ⟨_, rfl⟩
            have hB := vl_at ex10 hB
            refine lv_iinc (v := x10) (lv' := [(8, .int x10), (4, .long x9), (0, .ref (ad 36)), (1, .ref (ad (3 + 4 * kn))), (2, .int a2), (3, .int a3), (6, .int x1), (7, .int x3)]) hx hb dX5_sum_80 hl (k := 7) rfl (by rw [ex10]; rfl) (by decide) rfl (fun ls hl => ?_)
            refine lv_goto (tgt := 28) hx hb dX5_sum_83 (by decide) ?_
            exact hI28 _ (Option.some.inj hB).symm H locs ls hS (lv_sub hl [2, 3, 4, 5, 1, 6, 7, 0] rfl)
          refine lv_if_eq (tgt := 62) hx hb dX5_sum_36 (by decide) (fun c11 => ?_) (fun c11 => ?_)
          · have hB := it_t c11 hB
            exact hJ62  H locs ls hB hS (lv_sub hl [0, 1, 2, 3, 4, 5, 6, 7] rfl)
          · have hB := it_f c11 hB
            refine lv_iload_n hx hb dX5_sum_39 rfl (lv_at hl 3 rfl) ?_
            refine lv_iconst (v := (1 : Int32)) hx hb dX5_sum_40 (by decide) ?_
            have hJ50 : ∀ (H : Heap) (locs : List Loc) (ls : Array Slot), f_X5_sum_J50 σ a3 x1 x3 x5 x6 = some r28 → ST dC dI ad cA s σ H locs → lv_has ls 9 [(0, .ref (ad 36)), (1, .ref (ad (3 + 4 * kn))), (2, .int a2), (3, .int a3), (4, .long x5), (6, .int x1), (7, .int x3), (8, .int x6)] → W p l e (RM 0 0) s m args below meth c H locs 0 0 Q (F0 m 50 ls []) := by
              intro H locs ls hB hS hl
              unfold f_X5_sum_J50 at hB
              refine lv_iload_n hx hb dX5_sum_50 rfl (lv_at hl 3 rfl) ?_
              refine lv_iconst (v := (2 : Int32)) hx hb dX5_sum_51 (by decide) ?_
              refine lv_icmp_ne (tgt := 80) hx hb dX5_sum_52 (by decide) (fun c12 => ?_) (fun c12 => ?_)
              · have hB := it_f c12 hB
                obtain ⟨x13, ex13⟩ : ∃ y : Int32, y = x6 + (1 : Int32) := ⟨_, rfl⟩
                have hB := vl_at ex13 hB
                refine lv_iinc (v := x13) (lv' := [(8, .int x13), (0, .ref (ad 36)), (1, .ref (ad (3 + 4 * kn))), (2, .int a2), (3, .int a3), (4, .long x5), (6, .int x1), (7, .int x3)]) hx hb dX5_sum_80 hl (k := 7) rfl (by rw [ex13]; rfl) (by decide) rfl (fun ls hl => ?_)
                refine lv_goto (tgt := 28) hx hb dX5_sum_83 (by decide) ?_
                exact hI28 _ (Option.some.inj hB).symm H locs ls hS (lv_sub hl [1, 2, 3, 4, 5, 6, 7, 0] rfl)
              · have hB := it_t c12 hB
                refine lv_iload hx hb dX5_sum_55 (lv_at hl 7 rfl) ?_
                refine lv_iload hx hb dX5_sum_57 (lv_at hl 5 rfl) ?_
                refine lv_icmp_ne (tgt := 80) hx hb dX5_sum_59 (by decide) (fun c14 => ?_) (fun c14 => ?_)
                · have hB := it_f c14 hB
                  obtain ⟨x15, ex15⟩ : ∃ y : Int32, y = x6 + (1 : Int32) := ⟨_, rfl⟩
                  have hB := vl_at ex15 hB
                  refine lv_iinc (v := x15) (lv' := [(8, .int x15), (0, .ref (ad 36)), (1, .ref (ad (3 + 4 * kn))), (2, .int a2), (3, .int a3), (4, .long x5), (6, .int x1), (7, .int x3)]) hx hb dX5_sum_80 hl (k := 7) rfl (by rw [ex15]; rfl) (by decide) rfl (fun ls hl => ?_)
                  refine lv_goto (tgt := 28) hx hb dX5_sum_83 (by decide) ?_
                  exact hI28 _ (Option.some.inj hB).symm H locs ls hS (lv_sub hl [1, 2, 3, 4, 5, 6, 7, 0] rfl)
                · have hB := it_t c14 hB
                  exact hJ62  H locs ls hB hS (lv_sub hl [0, 1, 2, 3, 4, 5, 6, 7] rfl)
            refine lv_icmp_ne (tgt := 50) hx hb dX5_sum_41 (by decide) (fun c16 => ?_) (fun c16 => ?_)
            · have hB := it_f c16 hB
              exact hJ50  H locs ls hB hS (lv_sub hl [0, 1, 2, 3, 4, 5, 6, 7] rfl)
            · have hB := it_t c16 hB
              refine lv_iload hx hb dX5_sum_44 (lv_at hl 6 rfl) ?_
              refine lv_iload_n hx hb dX5_sum_46 rfl (lv_at hl 2 rfl) ?_
              refine lv_icmp_eq (tgt := 62) hx hb dX5_sum_47 (by decide) (fun c17 => ?_) (fun c17 => ?_)
              · have hB := it_t c17 hB
                exact hJ62  H locs ls hB hS (lv_sub hl [0, 1, 2, 3, 4, 5, 6, 7] rfl)
              · have hB := it_f c17 hB
                exact hJ50  H locs ls hB hS (lv_sub hl [0, 1, 2, 3, 4, 5, 6, 7] rfl)
      · skip
        intro H locs ls hS hl
        have hS : ST dC dI ad cA s σ H locs := hS
        have hl : lv_has ls 9 [(0, .ref (ad 36)), (1, .ref (ad (3 + 4 * kn))), (2, .int a2), (3, .int a3), (4, .long t18), (6, .int x1), (7, .int x3)] := hl
        show W p l e (RM 0 0) s m args below meth c H locs 0 0 Q (F0 m 86 ls [])
        obtain ⟨x19, ex19⟩ : ∃ y : Int32, y = x3 + (1 : Int32) := ⟨_, rfl⟩
        have hB := vl_at ex19 hB
        refine lv_iinc (v := x19) (lv' := [(7, .int x19), (0, .ref (ad 36)), (1, .ref (ad (3 + 4 * kn))), (2, .int a2), (3, .int a3), (4, .long t18), (6, .int x1)]) hx hb dX5_sum_86 hl (k := 6) rfl (by rw [ex19]; rfl) (by decide) rfl (fun ls hl => ?_)
        refine lv_goto (tgt := 16) hx hb dX5_sum_89 (by decide) ?_
        exact hI16 _ (Option.some.inj hB).symm H locs ls hS (lv_sub hl [1, 2, 3, 4, 5, 6, 0] rfl)
  · skip
    intro H locs ls hS hl
    have hS : ST dC dI ad cA s σ H locs := hS
    have hl : lv_has ls 9 [(4, .long t20)] := hl
    show W p l e (RM 0 0) s m args below meth c H locs 0 0 Q (F0 m 92 ls [])
    refine lv_lload hx hb dX5_sum_92 (lv_at hl 0 rfl) ?_
    subst hQ
    exact r_lret hx hb hr hK hS (pz hB) hlocks dX5_sum_94
set_option maxHeartbeats 4000000 in
set_option maxRecDepth 100000 in
theorem c_X6_walks (l : Launch) (dC : Nat → ClassId) (dI : Nat → Nat → Nat) (ad : Nat → Nat) (cA : Nat → ClassId) (σ : Sg) (a1 : Int32) (a2 : Int32) (a3 : Int32) (z : Int64 × Sg) (hB : f_X6_walks σ a1 a2 a3 = some z) : Kl l dC dI ad cA yX6_walks wsX6_walks 5 119 [.ref (ad 0), .int a1, .int a2, .int a3] σ z := by
  refine mk_l (cc := cX6_walks) (maxL := 4) (ret := (some .long)) (by decide) rfl (Nat.le_of_ble_eq_true rfl) ?_
  intro p e s m args below meth c Q H locs ls ⟨hx, hb, hr, hml, hown, hts, hlocks, hK, hN⟩ hQ hS hl
  have hown : s.vm.findClass RX6 = some m.cls := hown
  have hl : lv_has ls 4 [(0, .ref (ad 0)), (1, .int a1), (2, .int a2), (3, .int a3)] := hl
  have hk_f19 := hts (.fieldLink RX6 19 "ChanceNets" "now" "LChanceNets$Net;") (by decide +kernel)
  have hin_X6 : ∀ w ∈ u_ws RX6 TX6 13, w ∈ wsX6_walks := by decide +kernel
  have hk_c143 := hts (.constantLong RX6 143 (-1)) (by decide +kernel)
  have hk_f50 := hts (.fieldLink RX6 50 "ChanceNets" "walker" "LChanceNets$Walker;") (by decide +kernel)
  unfold f_X6_walks at hB
  refine lv_aload_n hx hb dX6_walks_0 rfl (lv_at hl 0 rfl) ?_
  refine r_get (v := .ref (ad 3)) (C := RX6) (T := TX6) (N := 13) hx hb hts hin_X6 hown hK hS (by decide) e_0 rfl 1 (by decide) hk_f19 rfl rfl dX6_walks_1 ?_
  refine lv_iload_n hx hb dX6_walks_4 rfl (lv_at hl 1 rfl) ?_
  obtain ⟨t1, ht1, hB⟩ := bi_at hB
  refine r_ViP ⟨hx, hb, hml, hown, hts⟩ (c_X1_hasNode l dC dI ad cA σ 0 (by decide) a1 t1 ht1) (cwV 1 hts gX6_walks_X1_hasNode rfl rfl rfl (by decide +kernel) ⟨Nat.le_of_ble_eq_true rfl, Nat.le_of_ble_eq_true rfl⟩) hK hN hS (by decide) (e_net (k := 0) (by decide)) rfl rfl hl.1 rfl (Nat.le_of_ble_eq_true rfl) dX6_walks_5 ⟨Nat.le_refl _, Nat.le_refl _⟩ (fun H locs hS => ?_)
  refine lv_if_eq (tgt := 30) hx hb dX6_walks_8 (by decide) (fun c2 => ?_) (fun c2 => ?_)
  · have hB := it_t c2 hB
    refine lv_ldc2 (v := (-1 : Int64)) hx hb hown hk_c143 dX6_walks_30 ?_
    subst hQ
    exact r_lret hx hb hr hK hS hB hlocks dX6_walks_33
  · have hB := it_f c2 hB
    refine lv_iload_n hx hb dX6_walks_11 rfl (lv_at hl 2 rfl) ?_
    refine lv_if_lt (tgt := 30) hx hb dX6_walks_12 (by decide) (fun c3 => ?_) (fun c3 => ?_)
    · have hB := it_t c3 hB
      refine lv_ldc2 (v := (-1 : Int64)) hx hb hown hk_c143 dX6_walks_30 ?_
      subst hQ
      exact r_lret hx hb hr hK hS hB hlocks dX6_walks_33
    · have hB := it_f c3 hB
      refine lv_iload_n hx hb dX6_walks_15 rfl (lv_at hl 2 rfl) ?_
      refine lv_bipush (v := (6 : Int32)) hx hb dX6_walks_16 (by decide) ?_
      refine lv_icmp_gt (tgt := 30) hx hb dX6_walks_18 (by decide) (fun c4 => ?_) (fun c4 => ?_)
      · have hB := it_t c4 hB
        refine lv_ldc2 (v := (-1 : Int64)) hx hb hown hk_c143 dX6_walks_30 ?_
        subst hQ
        exact r_lret hx hb hr hK hS hB hlocks dX6_walks_33
      · have hB := it_f c4 hB
        refine lv_iload_n hx hb dX6_walks_21 rfl (lv_at hl 3 rfl) ?_
        refine lv_if_lt (tgt := 30) hx hb dX6_walks_22 (by decide) (fun c5 => ?_) (fun c5 => ?_)
        · have hB := it_t c5 hB
          refine lv_ldc2 (v := (-1 : Int64)) hx hb hown hk_c143 dX6_walks_30 ?_
          subst hQ
          exact r_lret hx hb hr hK hS hB hlocks dX6_walks_33
        · have hB := it_f c5 hB
          refine lv_iload_n hx hb dX6_walks_25 rfl (lv_at hl 3 rfl) ?_
          refine lv_iconst (v := (2 : Int32)) hx hb dX6_walks_26 (by decide) ?_
          refine lv_icmp_le (tgt := 34) hx hb dX6_walks_27 (by decide) (fun c6 => ?_) (fun c6 => ?_)
          · have hB := it_t c6 hB
            refine lv_aload_n hx hb dX6_walks_34 rfl (lv_at hl 0 rfl) ?_
            refine r_get (v := .ref (ad 36)) (C := RX6) (T := TX6) (N := 13) hx hb hts hin_X6 hown hK hS (by decide) e_0 rfl 7 (by decide) hk_f50 rfl rfl dX6_walks_35 ?_
            refine lv_aload_n hx hb dX6_walks_38 rfl (lv_at hl 0 rfl) ?_
            refine r_get (v := .ref (ad 3)) (C := RX6) (T := TX6) (N := 13) hx hb hts hin_X6 hown hK hS (by decide) e_0 rfl 1 (by decide) hk_f19 rfl rfl dX6_walks_39 ?_
            refine lv_iload_n hx hb dX6_walks_42 rfl (lv_at hl 1 rfl) ?_
            refine lv_iload_n hx hb dX6_walks_43 rfl (lv_at hl 2 rfl) ?_
            obtain ⟨t7, ht7, hB⟩ := bi_at hB
            refine r_Vv ⟨hx, hb, hml, hown, hts⟩ (c_X5_goes l dC dI ad cA σ 0 (by decide) a1 a2 t7 ht7) (cwV 3 hts gX6_walks_X5_goes rfl rfl rfl (by decide +kernel) ⟨Nat.le_of_ble_eq_true rfl, Nat.le_of_ble_eq_true rfl⟩) hK hN hS (by decide) e_36 rfl rfl hl.1 rfl (Nat.le_of_ble_eq_true rfl) dX6_walks_44 ⟨Nat.le_refl _, Nat.le_refl _⟩ (fun H locs hS => ?_)
            refine lv_aload_n hx hb dX6_walks_47 rfl (lv_at hl 0 rfl) ?_
            refine r_get (v := .ref (ad 36)) (C := RX6) (T := TX6) (N := 13) hx hb hts hin_X6 hown hK hS (by decide) e_0 rfl 7 (by decide) hk_f50 rfl rfl dX6_walks_48 ?_
            refine lv_aload_n hx hb dX6_walks_51 rfl (lv_at hl 0 rfl) ?_
            refine r_get (v := .ref (ad 3)) (C := RX6) (T := TX6) (N := 13) hx hb hts hin_X6 hown hK hS (by decide) e_0 rfl 1 (by decide) hk_f19 rfl rfl dX6_walks_52 ?_
            refine lv_iload_n hx hb dX6_walks_55 rfl (lv_at hl 1 rfl) ?_
            refine lv_iload_n hx hb dX6_walks_56 rfl (lv_at hl 3 rfl) ?_
            obtain ⟨t8, ht8, hB⟩ := bi_at hB
            refine r_VlP ⟨hx, hb, hml, hown, hts⟩ (c_X5_sum l dC dI ad cA t7 0 (by decide) a1 a3 t8 ht8) (cwV 3 hts gX6_walks_X5_sum rfl rfl rfl (by decide +kernel) ⟨Nat.le_of_ble_eq_true rfl, Nat.le_of_ble_eq_true rfl⟩) hK hN hS (by decide) e_36 rfl rfl hl.1 rfl (Nat.le_of_ble_eq_true rfl) dX6_walks_57 ⟨Nat.le_refl _, Nat.le_refl _⟩ (fun H locs hS => ?_)
            subst hQ
            exact r_lret hx hb hr hK hS hB hlocks dX6_walks_60
          · have hB := it_f c6 hB
            refine lv_ldc2 (v := (-1 : Int64)) hx hb hown hk_c143 dX6_walks_30 ?_
            subst hQ
            exact r_lret hx hb hr hK hS hB hlocks dX6_walks_33
