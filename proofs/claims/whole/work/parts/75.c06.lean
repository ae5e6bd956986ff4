set_option maxHeartbeats 4000000 in
set_option maxRecDepth 100000 in
theorem c_X6_keep (l : Launch) (dC : Nat → ClassId) (dI : Nat → Nat → Nat) (ad : Nat → Nat) (cA : Nat → ClassId) (σ : Sg) (a1 : Int32) (z : Int32 × Sg) (hB : f_X6_keep σ a1 = some z) : Ki l dC dI ad cA yX6_keep wsX6_keep 2 47 [.ref (ad 0), .int a1] σ z := by
  refine mk_i (cc := cX6_keep) (maxL := 2) (ret := (some .int)) (by decide) rfl (Nat.le_of_ble_eq_true rfl) ?_
  intro p e s m args below meth c Q H locs ls ⟨hx, hb, hr, hml, hown, hts, hlocks, hK, hN⟩ hQ hS hl
  have hown : s.vm.findClass RX6 = some m.cls := hown
  have hl : lv_has ls 2 [(0, .ref (ad 0)), (1, .int a1)] := hl
  have hk_f64 := hts (.fieldLink RX6 64 "ChanceNets" "images" "[LChanceNets$Net;") (by decide +kernel)
  have hin_X6 : ∀ w ∈ u_ws RX6 TX6 13, w ∈ wsX6_keep := by decide +kernel
  have hk_f19 := hts (.fieldLink RX6 19 "ChanceNets" "now" "LChanceNets$Net;") (by decide +kernel)
  have hk_f68 := hts (.fieldLink RX6 68 "ChanceNets" "imageIsKept" "[Z") (by decide +kernel)
  have hk_f230 := hts (.fieldLink RX6 230 "ChanceNets$Net" "nodes" "I") (by decide +kernel)
  have hin_X1 : ∀ w ∈ u_ws RX1 TX1 5, w ∈ wsX6_keep := by decide +kernel
  unfold f_X6_keep at hB
  refine lv_iload_n hx hb dX6_keep_0 rfl (lv_at hl 1 rfl) ?_
  obtain ⟨t1, ht1, hB⟩ := bi_at hB
  refine r_SiP ⟨hx, hb, hml, hown, hts⟩ (c_X6_isImage l dC dI ad cA σ a1 t1 ht1) (va_cwS 1 hts gX6_keep_X6_isImage rfl rfl rfl (by decide +kernel) ⟨Nat.le_of_ble_eq_true rfl, Nat.le_of_ble_eq_true rfl⟩) hK hN hS rfl hl.1 rfl (Nat.le_of_ble_eq_true rfl) dX6_keep_1 ⟨Nat.le_refl _, Nat.le_refl _⟩ (fun H locs hS => ?_)
  refine lv_if_ne (tgt := 9) hx hb dX6_keep_4 (by decide) (fun c2 => ?_) (fun c2 => ?_)
  · have hB := it_f c2 hB
    refine lv_aload_n hx hb dX6_keep_9 rfl (lv_at hl 0 rfl) ?_
    refine r_get (v := .ref (ad 43)) (C := RX6) (T := TX6) (N := 13) hx hb hts hin_X6 hown hK hS (by decide) e_0 rfl 11 (by decide) hk_f64 rfl rfl dX6_keep_10 ?_
    refine lv_iload_n hx hb dX6_keep_13 rfl (lv_at hl 1 rfl) ?_
    obtain ⟨h3, hB⟩ := gd_at hB
    refine r_image hx hb hK hS h3 dX6_keep_14 ?_
    have hnh3 := okI_nat h3
    refine lv_aload_n hx hb dX6_keep_15 rfl (lv_at hl 0 rfl) ?_
    refine r_get (v := .ref (ad 3)) (C := RX6) (T := TX6) (N := 13) hx hb hts hin_X6 hown hK hS (by decide) e_0 rfl 1 (by decide) hk_f19 rfl rfl dX6_keep_16 ?_
    obtain ⟨t4, ht4, hB⟩ := bi_at hB
    refine r_Vv ⟨hx, hb, hml, hown, hts⟩ (c_X1_copyFrom l dC dI ad cA σ (3 + a1.toNatClampNeg) (by omega) 0 (by decide) t4 ht4) (cwV 1 hts gX6_keep_X1_copyFrom rfl rfl rfl (by decide +kernel) ⟨Nat.le_of_ble_eq_true rfl, Nat.le_of_ble_eq_true rfl⟩) hK hN hS (by omega) (e_net (k := (3 + a1.toNatClampNeg)) (by omega)) rfl rfl hl.1 rfl (Nat.le_of_ble_eq_true rfl) dX6_keep_19 ⟨Nat.le_refl _, Nat.le_refl _⟩ (fun H locs hS => ?_)
    refine lv_aload_n hx hb dX6_keep_22 rfl (lv_at hl 0 rfl) ?_
    refine r_get (v := .ref (ad 44)) (C := RX6) (T := TX6) (N := 13) hx hb hts hin_X6 hown hK hS (by decide) e_0 rfl 12 (by decide) hk_f68 rfl rfl dX6_keep_23 ?_
    refine lv_iload_n hx hb dX6_keep_26 rfl (lv_at hl 1 rfl) ?_
    refine lv_iconst (v := (1 : Int32)) hx hb dX6_keep_27 (by decide) ?_
    obtain ⟨h5, hB⟩ := gd_at hB
    refine r_zast hx hb hK hS rfl h5 dX6_keep_28 (fun H locs hS => ?_)
    obtain ⟨σ6, eσ6⟩ : ∃ t : Sg, t = pA t4 44 a1.toNatClampNeg (1 : Int32) := ⟨_, rfl⟩
    rw [← eσ6] at hS
    have hB := vl_at eσ6 hB
    refine lv_aload_n hx hb dX6_keep_29 rfl (lv_at hl 0 rfl) ?_
    refine r_get (v := .ref (ad 3)) (C := RX6) (T := TX6) (N := 13) hx hb hts hin_X6 hown hK hS (by decide) e_0 rfl 1 (by decide) hk_f19 rfl rfl dX6_keep_30 ?_
    refine r_get (v := .int (gI σ6 4)) (C := RX1) (T := TX1) (N := 5) hx hb hts hin_X1 hown hK hS (by decide) (e_net (k := 0) (by decide)) rfl 0 (by decide) hk_f230 rfl rfl dX6_keep_33 ?_
    subst hQ
    exact r_iret hx hb hr hK hS hB hlocks dX6_keep_36
  · have hB := it_t c2 hB
    refine lv_iconst (v := (-1 : Int32)) hx hb dX6_keep_7 (by decide) ?_
    subst hQ
    exact r_iret hx hb hr hK hS hB hlocks dX6_keep_8
set_option maxHeartbeats 4000000 in
set_option maxRecDepth 100000 in
theorem c_X6_back (l : Launch) (dC : Nat → ClassId) (dI : Nat → Nat → Nat) (ad : Nat → Nat) (cA : Nat → ClassId) (σ : Sg) (a1 : Int32) (z : Int32 × Sg) (hB : f_X6_back σ a1 = some z) : Ki l dC dI ad cA yX6_back wsX6_back 2 47 [.ref (ad 0), .int a1] σ z := by
  refine mk_i (cc := cX6_back) (maxL := 2) (ret := (some .int)) (by decide) rfl (Nat.le_of_ble_eq_true rfl) ?_
  intro p e s m args below meth c Q H locs ls ⟨hx, hb, hr, hml, hown, hts, hlocks, hK, hN⟩ hQ hS hl
  have hown : s.vm.findClass RX6 = some m.cls := hown
  have hl : lv_has ls 2 [(0, .ref (ad 0)), (1, .int a1)] := hl
  have hk_f68 := hts (.fieldLink RX6 68 "ChanceNets" "imageIsKept" "[Z") (by decide +kernel)
  have hin_X6 : ∀ w ∈ u_ws RX6 TX6 13, w ∈ wsX6_back := by decide +kernel
  have hk_f19 := hts (.fieldLink RX6 19 "ChanceNets" "now" "LChanceNets$Net;") (by decide +kernel)
  have hk_f64 := hts (.fieldLink RX6 64 "ChanceNets" "images" "[LChanceNets$Net;") (by decide +kernel)
  have hk_f36 := hts (.fieldLink RX6 36 "ChanceNets" "past" "LChanceNets$Past;") (by decide +kernel)
  have hk_f91 := hts (.fieldLink RX6 91 "ChanceNets$Past" "known" "I") (by decide +kernel)
  have hin_X2 : ∀ w ∈ u_ws RX2 TX2 4, w ∈ wsX6_back := by decide +kernel
  have hk_f230 := hts (.fieldLink RX6 230 "ChanceNets$Net" "nodes" "I") (by decide +kernel)
  have hin_X1 : ∀ w ∈ u_ws RX1 TX1 5, w ∈ wsX6_back := by decide +kernel
  unfold f_X6_back at hB
  refine lv_iload_n hx hb dX6_back_0 rfl (lv_at hl 1 rfl) ?_
  obtain ⟨t1, ht1, hB⟩ := bi_at hB
  refine r_SiP ⟨hx, hb, hml, hown, hts⟩ (c_X6_isImage l dC dI ad cA σ a1 t1 ht1) (va_cwS 1 hts gX6_back_X6_isImage rfl rfl rfl (by decide +kernel) ⟨Nat.le_of_ble_eq_true rfl, Nat.le_of_ble_eq_true rfl⟩) hK hN hS rfl hl.1 rfl (Nat.le_of_ble_eq_true rfl) dX6_back_1 ⟨Nat.le_refl _, Nat.le_refl _⟩ (fun H locs hS => ?_)
  refine lv_if_ne (tgt := 9) hx hb dX6_back_4 (by decide) (fun c2 => ?_) (fun c2 => ?_)
  · have hB := it_f c2 hB
    refine lv_aload_n hx hb dX6_back_9 rfl (lv_at hl 0 rfl) ?_
    refine r_get (v := .ref (ad 44)) (C := RX6) (T := TX6) (N := 13) hx hb hts hin_X6 hown hK hS (by decide) e_0 rfl 12 (by decide) hk_f68 rfl rfl dX6_back_10 ?_
    refine lv_iload_n hx hb dX6_back_13 rfl (lv_at hl 1 rfl) ?_
    obtain ⟨h3, hB⟩ := gd_at hB
    refine r_zald hx hb hK hS h3 dX6_back_14 ?_
    refine lv_if_ne (tgt := 21) hx hb dX6_back_15 (by decide) (fun c4 => ?_) (fun c4 => ?_)
    · have hB := it_f c4 hB
      refine lv_aload_n hx hb dX6_back_21 rfl (lv_at hl 0 rfl) ?_
      refine r_get (v := .ref (ad 3)) (C := RX6) (T := TX6) (N := 13) hx hb hts hin_X6 hown hK hS (by decide) e_0 rfl 1 (by decide) hk_f19 rfl rfl dX6_back_22 ?_
      refine lv_aload_n hx hb dX6_back_25 rfl (lv_at hl 0 rfl) ?_
      refine r_get (v := .ref (ad 43)) (C := RX6) (T := TX6) (N := 13) hx hb hts hin_X6 hown hK hS (by decide) e_0 rfl 11 (by decide) hk_f64 rfl rfl dX6_back_26 ?_
      refine lv_iload_n hx hb dX6_back_29 rfl (lv_at hl 1 rfl) ?_
      obtain ⟨h5, hB⟩ := gd_at hB
      refine r_image hx hb hK hS h5 dX6_back_30 ?_
      have hnh5 := okI_nat h5
      obtain ⟨t6, ht6, hB⟩ := bi_at hB
      refine r_Vv ⟨hx, hb, hml, hown, hts⟩ (c_X1_copyFrom l dC dI ad cA σ 0 (by decide) (3 + a1.toNatClampNeg) (by omega) t6 ht6) (cwV 1 hts gX6_back_X1_copyFrom rfl rfl rfl (by decide +kernel) ⟨Nat.le_of_ble_eq_true rfl, Nat.le_of_ble_eq_true rfl⟩) hK hN hS (by decide) (e_net (k := 0) (by decide)) rfl rfl hl.1 rfl (Nat.le_of_ble_eq_true rfl) dX6_back_31 ⟨Nat.le_refl _, Nat.le_refl _⟩ (fun H locs hS => ?_)
      refine lv_aload_n hx hb dX6_back_34 rfl (lv_at hl 0 rfl) ?_
      refine r_get (v := .ref (ad 24)) (C := RX6) (T := TX6) (N := 13) hx hb hts hin_X6 hown hK hS (by decide) e_0 rfl 5 (by decide) hk_f36 rfl rfl dX6_back_35 ?_
      refine lv_iconst (v := (0 : Int32)) hx hb dX6_back_38 (by decide) ?_
      refine r_put (σ' := pI t6 14 (0 : Int32)) (v := .int (0 : Int32)) (C := RX2) (T := TX2) (N := 4) hx hb hts hin_X2 tyX2 tyX2_ok nmX2 hown hK hS (by decide) e_24 rfl 3 (by decide) hk_f91 rfl rfl rfl rfl (Nat.le_of_ble_eq_true rfl) (fun d hd h => eo d hd h) rfl dX6_back_39 (fun H locs hS => ?_)
      obtain ⟨σ7, eσ7⟩ : ∃ t : Sg, t = pI t6 14 (0 : Int32) := ⟨_, rfl⟩
      rw [← eσ7] at hS
      have hB := vl_at eσ7 hB
      refine lv_aload_n hx hb dX6_back_42 rfl (lv_at hl 0 rfl) ?_
      refine r_get (v := .ref (ad 3)) (C := RX6) (T := TX6) (N := 13) hx hb hts hin_X6 hown hK hS (by decide) e_0 rfl 1 (by decide) hk_f19 rfl rfl dX6_back_43 ?_
      refine r_get (v := .int (gI σ7 4)) (C := RX1) (T := TX1) (N := 5) hx hb hts hin_X1 hown hK hS (by decide) (e_net (k := 0) (by decide)) rfl 0 (by decide) hk_f230 rfl rfl dX6_back_46 ?_
      subst hQ
      exact r_iret hx hb hr hK hS hB hlocks dX6_back_49
    · have hB := it_t c4 hB
      refine lv_bipush (v := (-2 : Int32)) hx hb dX6_back_18 (by decide) ?_
      subst hQ
      exact r_iret hx hb hr hK hS hB hlocks dX6_back_20
  · have hB := it_t c2 hB
    refine lv_iconst (v := (-1 : Int32)) hx hb dX6_back_7 (by decide) ?_
    subst hQ
    exact r_iret hx hb hr hK hS hB hlocks dX6_back_8
set_option maxHeartbeats 4000000 in
set_option maxRecDepth 100000 in
theorem c_X6_count (l : Launch) (dC : Nat → ClassId) (dI : Nat → Nat → Nat) (ad : Nat → Nat) (cA : Nat → ClassId) (σ : Sg) (a1 : Int32) (z : Int32) (hB : f_X6_count σ a1 = some z) : Ki l dC dI ad cA yX6_count wsX6_count 4 88 [.ref (ad 0), .int a1] σ (z, σ) := by
  refine mk_i (cc := cX6_count) (maxL := 2) (ret := (some .int)) (by decide) rfl (Nat.le_of_ble_eq_true rfl) ?_
  intro p e s m args below meth c Q H locs ls ⟨hx, hb, hr, hml, hown, hts, hlocks, hK, hN⟩ hQ hS hl
  have hown : s.vm.findClass RX6 = some m.cls := hown
  have hl : lv_has ls 2 [(0, .ref (ad 0)), (1, .int a1)] := hl
  have hk_f19 := hts (.fieldLink RX6 19 "ChanceNets" "now" "LChanceNets$Net;") (by decide +kernel)
  have hin_X6 : ∀ w ∈ u_ws RX6 TX6 13, w ∈ wsX6_count := by decide +kernel
  have hk_f230 := hts (.fieldLink RX6 230 "ChanceNets$Net" "nodes" "I") (by decide +kernel)
  have hin_X1 : ∀ w ∈ u_ws RX1 TX1 5, w ∈ wsX6_count := by decide +kernel
  have hk_f130 := hts (.fieldLink RX6 130 "ChanceNets$Net" "lines" "I") (by decide +kernel)
  have hk_f94 := hts (.fieldLink RX6 94 "ChanceNets" "seenCount" "I") (by decide +kernel)
  have hk_f10 := hts (.fieldLink RX6 10 "ChanceNets" "text" "LChanceNets$Text;") (by decide +kernel)
  have hk_f76 := hts (.fieldLink RX6 76 "ChanceNets$Text" "length" "I") (by decide +kernel)
  have hin_X4 : ∀ w ∈ u_ws RX4 TX4 4, w ∈ wsX6_count := by decide +kernel
  have hk_f36 := hts (.fieldLink RX6 36 "ChanceNets" "past" "LChanceNets$Past;") (by decide +kernel)
  have hk_f91 := hts (.fieldLink RX6 91 "ChanceNets$Past" "known" "I") (by decide +kernel)
  have hin_X2 : ∀ w ∈ u_ws RX2 TX2 4, w ∈ wsX6_count := by decide +kernel
  unfold f_X6_count at hB
  refine lv_iload_n hx hb dX6_count_0 rfl (lv_at hl 1 rfl) ?_
  by_cases q0 : a1 = (0 : Int32)
  · have hB := it_t q0 hB
    refine lv_tableIn (tgt := 44) hx hb dX6_count_1 (by rw [q0]; decide) (by rw [q0]; decide) (by rw [q0]; rfl) (by decide) ?_
    refine lv_aload_n hx hb dX6_count_44 rfl (lv_at hl 0 rfl) ?_
    refine r_get (v := .ref (ad 3)) (C := RX6) (T := TX6) (N := 13) hx hb hts hin_X6 hown hK hS (by decide) e_0 rfl 1 (by decide) hk_f19 rfl rfl dX6_count_45 ?_
    refine r_get (v := .int (gI σ 4)) (C := RX1) (T := TX1) (N := 5) hx hb hts hin_X1 hown hK hS (by decide) (e_net (k := 0) (by decide)) rfl 0 (by decide) hk_f230 rfl rfl dX6_count_48 ?_
    subst hQ
    exact r_iret hx hb hr hK hS (pz hB) hlocks dX6_count_51
  have hB := it_f q0 hB
  by_cases q1 : a1 = (1 : Int32)
  · have hB := it_t q1 hB
    refine lv_tableIn (tgt := 52) hx hb dX6_count_1 (by rw [q1]; decide) (by rw [q1]; decide) (by rw [q1]; rfl) (by decide) ?_
    refine lv_aload_n hx hb dX6_count_52 rfl (lv_at hl 0 rfl) ?_
    refine r_get (v := .ref (ad 3)) (C := RX6) (T := TX6) (N := 13) hx hb hts hin_X6 hown hK hS (by decide) e_0 rfl 1 (by decide) hk_f19 rfl rfl dX6_count_53 ?_
    refine r_get (v := .int (gI σ 5)) (C := RX1) (T := TX1) (N := 5) hx hb hts hin_X1 hown hK hS (by decide) (e_net (k := 0) (by decide)) rfl 1 (by decide) hk_f130 rfl rfl dX6_count_56 ?_
    subst hQ
    exact r_iret hx hb hr hK hS (pz hB) hlocks dX6_count_59
  have hB := it_f q1 hB
  by_cases q2 : a1 = (2 : Int32)
  · have hB := it_t q2 hB
    refine lv_tableIn (tgt := 60) hx hb dX6_count_1 (by rw [q2]; decide) (by rw [q2]; decide) (by rw [q2]; rfl) (by decide) ?_
    refine lv_aload_n hx hb dX6_count_60 rfl (lv_at hl 0 rfl) ?_
    refine r_get (v := .ref (ad 3)) (C := RX6) (T := TX6) (N := 13) hx hb hts hin_X6 hown hK hS (by decide) e_0 rfl 1 (by decide) hk_f19 rfl rfl dX6_count_61 ?_
    obtain ⟨t1, ht1, hB⟩ := bi_at hB
    refine r_ViP ⟨hx, hb, hml, hown, hts⟩ (c_X1_whole l dC dI ad cA σ 0 (by decide) t1 ht1) (cwV 0 hts gX6_count_X1_whole rfl rfl rfl (by decide +kernel) ⟨Nat.le_of_ble_eq_true rfl, Nat.le_of_ble_eq_true rfl⟩) hK hN hS (by decide) (e_net (k := 0) (by decide)) rfl rfl hl.1 rfl (Nat.le_of_ble_eq_true rfl) dX6_count_64 ⟨Nat.le_refl _, Nat.le_refl _⟩ (fun H locs hS => ?_)
    subst hQ
    exact r_iret hx hb hr hK hS (pz hB) hlocks dX6_count_67
  have hB := it_f q2 hB
  by_cases q3 : a1 = (3 : Int32)
  · have hB := it_t q3 hB
    refine lv_tableIn (tgt := 68) hx hb dX6_count_1 (by rw [q3]; decide) (by rw [q3]; decide) (by rw [q3]; rfl) (by decide) ?_
    refine lv_aload_n hx hb dX6_count_68 rfl (lv_at hl 0 rfl) ?_
    refine r_get (v := .ref (ad 3)) (C := RX6) (T := TX6) (N := 13) hx hb hts hin_X6 hown hK hS (by decide) e_0 rfl 1 (by decide) hk_f19 rfl rfl dX6_count_69 ?_
    obtain ⟨t2, ht2, hB⟩ := bi_at hB
    refine r_ViP ⟨hx, hb, hml, hown, hts⟩ (c_X1_hangs l dC dI ad cA σ 0 (by decide) t2 ht2) (cwV 0 hts gX6_count_X1_hangs rfl rfl rfl (by decide +kernel) ⟨Nat.le_of_ble_eq_true rfl, Nat.le_of_ble_eq_true rfl⟩) hK hN hS (by decide) (e_net (k := 0) (by decide)) rfl rfl hl.1 rfl (Nat.le_of_ble_eq_true rfl) dX6_count_72 ⟨Nat.le_refl _, Nat.le_refl _⟩ (fun H locs hS => ?_)
    refine lv_if_eq (tgt := 82) hx hb dX6_count_75 (by decide) (fun c3 => ?_) (fun c3 => ?_)
    · have hB := it_t c3 hB
      refine lv_iconst (v := (0 : Int32)) hx hb dX6_count_82 (by decide) ?_
      subst hQ
      exact r_iret hx hb hr hK hS (pz hB) hlocks dX6_count_83
    · have hB := it_f c3 hB
      refine lv_iconst (v := (1 : Int32)) hx hb dX6_count_78 (by decide) ?_
      refine lv_goto (tgt := 83) hx hb dX6_count_79 (by decide) ?_
      subst hQ
      exact r_iret hx hb hr hK hS (pz hB) hlocks dX6_count_83
  have hB := it_f q3 hB
  by_cases q4 : a1 = (4 : Int32)
  · have hB := it_t q4 hB
    refine lv_tableIn (tgt := 84) hx hb dX6_count_1 (by rw [q4]; decide) (by rw [q4]; decide) (by rw [q4]; rfl) (by decide) ?_
    refine lv_aload_n hx hb dX6_count_84 rfl (lv_at hl 0 rfl) ?_
    refine r_get (v := .int (gI σ 0)) (C := RX6) (T := TX6) (N := 13) hx hb hts hin_X6 hown hK hS (by decide) e_0 rfl 10 (by decide) hk_f94 rfl rfl dX6_count_85 ?_
    subst hQ
    exact r_iret hx hb hr hK hS (pz hB) hlocks dX6_count_88
  have hB := it_f q4 hB
  by_cases q5 : a1 = (5 : Int32)
  · have hB := it_t q5 hB
    refine lv_tableIn (tgt := 89) hx hb dX6_count_1 (by rw [q5]; decide) (by rw [q5]; decide) (by rw [q5]; rfl) (by decide) ?_
    refine lv_aload_n hx hb dX6_count_89 rfl (lv_at hl 0 rfl) ?_
    refine r_get (v := .ref (ad 1)) (C := RX6) (T := TX6) (N := 13) hx hb hts hin_X6 hown hK hS (by decide) e_0 rfl 0 (by decide) hk_f10 rfl rfl dX6_count_90 ?_
    refine r_get (v := .int (gI σ 1)) (C := RX4) (T := TX4) (N := 4) hx hb hts hin_X4 hown hK hS (by decide) e_1 rfl 1 (by decide) hk_f76 rfl rfl dX6_count_93 ?_
    subst hQ
    exact r_iret hx hb hr hK hS (pz hB) hlocks dX6_count_96
  have hB := it_f q5 hB
  by_cases q6 : a1 = (6 : Int32)
  · have hB := it_t q6 hB
    refine lv_tableIn (tgt := 97) hx hb dX6_count_1 (by rw [q6]; decide) (by rw [q6]; decide) (by rw [q6]; rfl) (by decide) ?_
    refine lv_aload_n hx hb dX6_count_97 rfl (lv_at hl 0 rfl) ?_
    refine r_get (v := .ref (ad 24)) (C := RX6) (T := TX6) (N := 13) hx hb hts hin_X6 hown hK hS (by decide) e_0 rfl 5 (by decide) hk_f36 rfl rfl dX6_count_98 ?_
    refine r_get (v := .int (gI σ 14)) (C := RX2) (T := TX2) (N := 4) hx hb hts hin_X2 hown hK hS (by decide) e_24 rfl 3 (by decide) hk_f91 rfl rfl dX6_count_101 ?_
    subst hQ
    exact r_iret hx hb hr hK hS (pz hB) hlocks dX6_count_104
  have hB := it_f q6 hB
  refine lv_tableOut (tgt := 105) hx hb dX6_count_1 (sw_out (n := 6) (fun j hj => by rcases (show j = 0 ∨ j = 1 ∨ j = 2 ∨ j = 3 ∨ j = 4 ∨ j = 5 ∨ j = 6 by omega) with h9 | h9 | h9 | h9 | h9 | h9 | h9 <;> subst_vars <;> assumption)) (by decide) ?_
  refine lv_iconst (v := (-1 : Int32)) hx hb dX6_count_105 (by decide) ?_
  subst hQ
  exact r_iret hx hb hr hK hS (pz hB) hlocks dX6_count_106
set_option maxHeartbeats 4000000 in
set_option maxRecDepth 100000 in
theorem c_X7_in (l : Launch) (dC : Nat → ClassId) (dI : Nat → Nat → Nat) (ad : Nat → Nat) (cA : Nat → ClassId) (σ : Sg) (a1 : Int64) (a2 : Int64) (a3 : Int64) (z : Int32) (hB : f_X7_in a1 a2 a3 = some z) : Ki l dC dI ad cA yX7_in wsX7_in 0 0 [.long a1, .long a2, .long a3] σ (z, σ) := by
  refine mk_i (cc := cX7_in) (maxL := 6) (ret := (some .boolean)) (by decide) rfl (Nat.le_of_ble_eq_true rfl) ?_
  intro p e s m args below meth c Q H locs ls ⟨hx, hb, hr, hml, hown, hts, hlocks, hK, hN⟩ hQ hS hl
  have hown : s.vm.findClass RX7 = some m.cls := hown
  have hl : lv_has ls 6 [(0, .long a1), (2, .long a2), (4, .long a3)] := hl
  unfold f_X7_in at hB
  refine lv_lload_n hx hb dX7_in_0 rfl (lv_at hl 0 rfl) ?_
  refine lv_lload_n hx hb dX7_in_1 rfl (lv_at hl 1 rfl) ?_
  refine W.lcmp hx hb dX7_in_2 ?_
  refine lv_if_lt (tgt := 17) hx hb dX7_in_3 (by decide) (fun c1 => ?_) (fun c1 => ?_)
  · have hB := it_t ((lg_cmp_lt _ _).mp c1) hB
    refine lv_iconst (v := (0 : Int32)) hx hb dX7_in_17 (by decide) ?_
    subst hQ
    exact r_zret hx hb hr hK hS rfl (pz hB) hlocks dX7_in_18
  · have hB := it_f (fun q => c1 ((lg_cmp_lt _ _).mpr q)) hB
    refine lv_lload_n hx hb dX7_in_6 rfl (lv_at hl 0 rfl) ?_
    refine lv_lload hx hb dX7_in_7 (lv_at hl 2 rfl) ?_
    refine W.lcmp hx hb dX7_in_9 ?_
    refine lv_if_gt (tgt := 17) hx hb dX7_in_10 (by decide) (fun c2 => ?_) (fun c2 => ?_)
    · have hB := it_t ((lg_cmp_gt _ _).mp c2) hB
      refine lv_iconst (v := (0 : Int32)) hx hb dX7_in_17 (by decide) ?_
      subst hQ
      exact r_zret hx hb hr hK hS rfl (pz hB) hlocks dX7_in_18
    · have hB := it_f (fun q => c2 ((lg_cmp_gt _ _).mpr q)) hB
      refine lv_iconst (v := (1 : Int32)) hx hb dX7_in_13 (by decide) ?_
      refine lv_goto (tgt := 18) hx hb dX7_in_14 (by decide) ?_
      subst hQ
      exact r_zret hx hb hr hK hS rfl (pz hB) hlocks dX7_in_18
set_option maxHeartbeats 4000000 in
set_option maxRecDepth 100000 in
theorem c_X7_copyRow (l : Launch) (dC : Nat → ClassId) (dI : Nat → Nat → Nat) (ad : Nat → Nat) (cA : Nat → ClassId) (σ : Sg) (a1 : Int32) (a2 : Int32) (z : Sg) (hB : f_X7_copyRow σ a1 a2 = some z) : Kv l dC dI ad cA yX7_copyRow wsX7_copyRow 0 0 [.ref (ad 45), .int a1, .int a2] σ z := by
  refine mk_v (cc := cX7_copyRow) (maxL := 4) (ret := none) (by decide) rfl (Nat.le_of_ble_eq_true rfl) ?_
  intro p e s m args below meth c Q H locs ls ⟨hx, hb, hr, hml, hown, hts, hlocks, hK, hN⟩ hQ hS hl
  have hown : s.vm.findClass RX7 = some m.cls := hown
  have hl : lv_has ls 4 [(0, .ref (ad 45)), (1, .int a1), (2, .int a2)] := hl
  have hk_f7 := hts (.fieldLink RX7 7 "ChanceNetsModel" "rows" "[I") (by decide +kernel)
  have hin_X7 : ∀ w ∈ u_ws RX7 TX7 19, w ∈ wsX7_copyRow := by decide +kernel
  unfold f_X7_copyRow at hB
  refine lv_iconst (v := (0 : Int32)) hx hb dX7_copyRow_0 (by decide) ?_
  refine lv_istore_n (lv' := [(3, .int (0 : Int32)), (0, .ref (ad 45)), (1, .int a1), (2, .int a2)]) hx hb dX7_copyRow_1 rfl hl (by decide) rfl (fun ls hl => ?_)
  obtain ⟨t9, ht9, hB⟩ := bi_at hB
  refine wl_W (body := fun a => f_X7_copyRow_B2 a1 a2 a.1 a.2) (Hd := fun a : Int32 × Sg => ∀ (H : Heap) (locs : List Loc) (ls : Array Slot), ST dC dI ad cA s a.2 H locs → lv_has ls 4 [(0, .ref (ad 45)), (1, .int a1), (2, .int a2), (3, .int a.1)] → W p l e (RM 0 0) s m args below meth c H locs 0 0 Q (F0 m 2 ls [])) (Ex := fun b : Sg => ∀ (H : Heap) (locs : List Loc) (ls : Array Slot), ST dC dI ad cA s b H locs → lv_has ls 4 [] → W p l e (RM 0 0) s m args below meth c H locs 0 0 Q (F0 m 30 ls [])) ?_ FU _ t9 ht9 ?_ H locs ls hS (lv_sub hl [1, 2, 3, 0] rfl)
  · intro a r2 hB hI2 hE2 H locs ls hS hl
    obtain ⟨x1, σ2⟩ := a
    have hB : f_X7_copyRow_B2 a1 a2 x1 σ2 = some r2 := hB
    unfold f_X7_copyRow_B2 at hB
    have hS : ST dC dI ad cA s σ2 H locs := hS
    have hl : lv_has ls 4 [(0, .ref (ad 45)), (1, .int a1), (2, .int a2), (3, .int x1)] := hl
    show W p l e (RM 0 0) s m args below meth c H locs 0 0 Q (F0 m 2 ls [])
    refine lv_iload_n hx hb dX7_copyRow_2 rfl (lv_at hl 3 rfl) ?_
    refine lv_bipush (v := (31 : Int32)) hx hb dX7_copyRow_3 (by decide) ?_
    refine lv_icmp_ge (tgt := 30) hx hb dX7_copyRow_5 (by decide) (fun c3 => ?_) (fun c3 => ?_)
    · have hB := it_t c3 hB
      exact hE2 _ (Option.some.inj hB).symm H locs ls hS (lv_sub hl [] rfl)
    · have hB := it_f c3 hB
      refine lv_aload_n hx hb dX7_copyRow_8 rfl (lv_at hl 0 rfl) ?_
      refine r_get (v := .ref (ad 46)) (C := RX7) (T := TX7) (N := 19) hx hb hts hin_X7 hown hK hS (by decide) e_45 rfl 0 (by decide) hk_f7 rfl rfl dX7_copyRow_9 ?_
      refine lv_iload_n hx hb dX7_copyRow_12 rfl (lv_at hl 2 rfl) ?_
      refine lv_iload_n hx hb dX7_copyRow_13 rfl (lv_at hl 3 rfl) ?_
      refine lv_iadd hx hb dX7_copyRow_14 ?_
      refine lv_aload_n hx hb dX7_copyRow_15 rfl (lv_at hl 0 rfl) ?_
      refine r_get (v := .ref (ad 46)) (C := RX7) (T := TX7) (N := 19) hx hb hts hin_X7 hown hK hS (by decide) e_45 rfl 0 (by decide) hk_f7 rfl rfl dX7_copyRow_16 ?_
      refine lv_iload_n hx hb dX7_copyRow_19 rfl (lv_at hl 1 rfl) ?_
      refine lv_iload_n hx hb dX7_copyRow_20 rfl (lv_at hl 3 rfl) ?_
      refine lv_iadd hx hb dX7_copyRow_21 ?_
      obtain ⟨h4, hB⟩ := gd_at hB
      refine r_iald hx hb hK hS h4 dX7_copyRow_22 ?_
      refine lv_topi (fun x5 ex5 => ?_)
      have hB := vl_at ex5 hB
      obtain ⟨h6, hB⟩ := gd_at hB
      refine r_iast hx hb hK hS h6 dX7_copyRow_23 (fun H locs hS => ?_)
      obtain ⟨σ7, eσ7⟩ : ∃ t : Sg, t = pA σ2 46 (a2 + x1).toNatClampNeg x5 := ⟨_, rfl⟩
      rw [← eσ7] at hS
      have hB := vl_at eσ7 hB
      obtain ⟨x8, ex8⟩ : ∃ y : Int32, y = x1 + (1 : Int32) := ⟨_, rfl⟩
      have hB := vl_at ex8 hB
      refine lv_iinc (v := x8) (lv' := [(3, .int x8), (0, .ref (ad 45)), (1, .int a1), (2, .int a2)]) hx hb dX7_copyRow_24 hl (k := 3) rfl (by rw [ex8]; rfl) (by decide) rfl (fun ls hl => ?_)
      refine lv_goto (tgt := 2) hx hb dX7_copyRow_27 (by decide) ?_
      exact hI2 _ (Option.some.inj hB).symm H locs ls hS (lv_sub hl [1, 2, 3, 0] rfl)
  · skip
    intro H locs ls hS hl
    have hS : ST dC dI ad cA s t9 H locs := hS
    have hl : lv_has ls 4 [] := hl
    show W p l e (RM 0 0) s m args below meth c H locs 0 0 Q (F0 m 30 ls [])
    subst hQ
    exact r_vret hx hb hr hK hS hB hlocks dX7_copyRow_30
set_option maxHeartbeats 4000000 in
set_option maxRecDepth 100000 in
theorem c_X7_lines (l : Launch) (dC : Nat → ClassId) (dI : Nat → Nat → Nat) (ad : Nat → Nat) (cA : Nat → ClassId) (σ : Sg)  (z : Int32) (hB : f_X7_lines σ = some z) : Ki l dC dI ad cA yX7_lines wsX7_lines 0 0 [.ref (ad 45)] σ (z, σ) := by
  refine mk_i (cc := cX7_lines) (maxL := 1) (ret := (some .int)) (by decide) rfl (Nat.le_of_ble_eq_true rfl) ?_
  intro p e s m args below meth c Q H locs ls ⟨hx, hb, hr, hml, hown, hts, hlocks, hK, hN⟩ hQ hS hl
  have hown : s.vm.findClass RX7 = some m.cls := hown
  have hl : lv_has ls 1 [(0, .ref (ad 45))] := hl
  have hk_f7 := hts (.fieldLink RX7 7 "ChanceNetsModel" "rows" "[I") (by decide +kernel)
  have hin_X7 : ∀ w ∈ u_ws RX7 TX7 19, w ∈ wsX7_lines := by decide +kernel
  unfold f_X7_lines at hB
  refine lv_aload_n hx hb dX7_lines_0 rfl (lv_at hl 0 rfl) ?_
  refine r_get (v := .ref (ad 46)) (C := RX7) (T := TX7) (N := 19) hx hb hts hin_X7 hown hK hS (by decide) e_45 rfl 0 (by decide) hk_f7 rfl rfl dX7_lines_1 ?_
  refine lv_iconst (v := (0 : Int32)) hx hb dX7_lines_4 (by decide) ?_
  obtain ⟨h1, hB⟩ := gd_at hB
  refine r_iald hx hb hK hS h1 dX7_lines_5 ?_
  subst hQ
  exact r_iret hx hb hr hK hS (pz hB) hlocks dX7_lines_6
set_option maxHeartbeats 4000000 in
set_option maxRecDepth 100000 in
theorem c_X7_lineOf (l : Launch) (dC : Nat → ClassId) (dI : Nat → Nat → Nat) (ad : Nat → Nat) (cA : Nat → ClassId) (σ : Sg) (a1 : Int32) (a2 : Int32) (a3 : Int32) (z : Int32) (hB : f_X7_lineOf σ a1 a2 a3 = some z) : Ki l dC dI ad cA yX7_lineOf wsX7_lineOf 0 0 [.ref (ad 45), .int a1, .int a2, .int a3] σ (z, σ) := by
  refine mk_i (cc := cX7_lineOf) (maxL := 7) (ret := (some .int)) (by decide) rfl (Nat.le_of_ble_eq_true rfl) ?_
  intro p e s m args below meth c Q H locs ls ⟨hx, hb, hr, hml, hown, hts, hlocks, hK, hN⟩ hQ hS hl
  have hown : s.vm.findClass RX7 = some m.cls := hown
  have hl : lv_has ls 7 [(0, .ref (ad 45)), (1, .int a1), (2, .int a2), (3, .int a3)] := hl
  have hk_f7 := hts (.fieldLink RX7 7 "ChanceNetsModel" "rows" "[I") (by decide +kernel)
  have hin_X7 : ∀ w ∈ u_ws RX7 TX7 19, w ∈ wsX7_lineOf := by decide +kernel
  unfold f_X7_lineOf at hB
  refine lv_iload_n hx hb dX7_lineOf_0 rfl (lv_at hl 2 rfl) ?_
  refine lv_iload_n hx hb dX7_lineOf_1 rfl (lv_at hl 3 rfl) ?_
  have hJ10 : ∀ (x1 : Int32) (H : Heap) (locs : List Loc) (ls : Array Slot), f_X7_lineOf_J10 σ a1 a2 a3 x1 = some z → ST dC dI ad cA s σ H locs → lv_has ls 7 [(0, .ref (ad 45)), (1, .int a1), (2, .int a2), (3, .int a3)] → W p l e (RM 0 0) s m args below meth c H locs 0 0 Q (F0 m 10 ls [.int x1]) := by
    intro x1 H locs ls hB hS hl
    unfold f_X7_lineOf_J10 at hB
    refine lv_istore (lv' := [(4, .int x1), (0, .ref (ad 45)), (1, .int a1), (2, .int a2), (3, .int a3)]) hx hb dX7_lineOf_10 hl (by decide) rfl (fun ls hl => ?_)
    refine lv_bipush (v := (-9 : Int32)) hx hb dX7_lineOf_12 (by decide) ?_
    refine lv_istore (lv' := [(5, .int (-9 : Int32)), (4, .int x1), (0, .ref (ad 45)), (1, .int a1), (2, .int a2), (3, .int a3)]) hx hb dX7_lineOf_14 hl (by decide) rfl (fun ls hl => ?_)
    refine lv_iconst (v := (0 : Int32)) hx hb dX7_lineOf_16 (by decide) ?_
    refine lv_istore (lv' := [(6, .int (0 : Int32)), (5, .int (-9 : Int32)), (4, .int x1), (0, .ref (ad 45)), (1, .int a1), (2, .int a2), (3, .int a3)]) hx hb dX7_lineOf_17 hl (by decide) rfl (fun ls hl => ?_)
    obtain ⟨t13, ht13, hB⟩ := bi_at hB
    refine wl_W (body := fun a => f_X7_lineOf_B19 σ a1 a2 a3 x1 a.1 a.2) (Hd := fun a : Int32 × Int32 => ∀ (H : Heap) (locs : List Loc) (ls : Array Slot), ST dC dI ad cA s σ H locs → lv_has ls 7 [(0, .ref (ad 45)), (1, .int a1), (2, .int a2), (3, .int a3), (4, .int x1), (5, .int a.1), (6, .int a.2)] → W p l e (RM 0 0) s m args below meth c H locs 0 0 Q (F0 m 19 ls [])) (Ex := fun b : Int32 => ∀ (H : Heap) (locs : List Loc) (ls : Array Slot), ST dC dI ad cA s σ H locs → lv_has ls 7 [(5, .int b)] → W p l e (RM 0 0) s m args below meth c H locs 0 0 Q (F0 m 84 ls [])) ?_ FU _ t13 ht13 ?_ H locs ls hS (lv_sub hl [3, 4, 5, 6, 2, 1, 0] rfl)
    · intro a r19 hB hI19 hE19 H locs ls hS hl
      obtain ⟨x2, x3⟩ := a
      have hB : f_X7_lineOf_B19 σ a1 a2 a3 x1 x2 x3 = some r19 := hB
      unfold f_X7_lineOf_B19 at hB
      have hS : ST dC dI ad cA s σ H locs := hS
      have hl : lv_has ls 7 [(0, .ref (ad 45)), (1, .int a1), (2, .int a2), (3, .int a3), (4, .int x1), (5, .int x2), (6, .int x3)] := hl
      show W p l e (RM 0 0) s m args below meth c H locs 0 0 Q (F0 m 19 ls [])
      refine lv_iload hx hb dX7_lineOf_19 (lv_at hl 6 rfl) ?_
      refine lv_aload_n hx hb dX7_lineOf_21 rfl (lv_at hl 0 rfl) ?_
      refine r_get (v := .ref (ad 46)) (C := RX7) (T := TX7) (N := 19) hx hb hts hin_X7 hown hK hS (by decide) e_45 rfl 0 (by decide) hk_f7 rfl rfl dX7_lineOf_22 ?_
      refine lv_iload_n hx hb dX7_lineOf_25 rfl (lv_at hl 1 rfl) ?_
      refine lv_iconst (v := (0 : Int32)) hx hb dX7_lineOf_26 (by decide) ?_
      refine lv_iadd hx hb dX7_lineOf_27 ?_
      obtain ⟨h4, hB⟩ := gd_at hB
      refine r_iald hx hb hK hS h4 dX7_lineOf_28 ?_
      refine lv_icmp_ge (tgt := 84) hx hb dX7_lineOf_29 (by decide) (fun c5 => ?_) (fun c5 => ?_)
      · have hB := it_t c5 hB
        exact hE19 _ (Option.some.inj hB).symm H locs ls hS (lv_sub hl [5] rfl)
      · have hB := it_f c5 hB
        refine lv_aload_n hx hb dX7_lineOf_32 rfl (lv_at hl 0 rfl) ?_
        refine r_get (v := .ref (ad 46)) (C := RX7) (T := TX7) (N := 19) hx hb hts hin_X7 hown hK hS (by decide) e_45 rfl 0 (by decide) hk_f7 rfl rfl dX7_lineOf_33 ?_
        refine lv_iload_n hx hb dX7_lineOf_36 rfl (lv_at hl 1 rfl) ?_
        refine lv_iconst (v := (1 : Int32)) hx hb dX7_lineOf_37 (by decide) ?_
        refine lv_iadd hx hb dX7_lineOf_38 ?_
        refine lv_iload hx hb dX7_lineOf_39 (lv_at hl 6 rfl) ?_
        refine lv_iadd hx hb dX7_lineOf_41 ?_
        obtain ⟨h6, hB⟩ := gd_at hB
        refine r_iald hx hb hK hS h6 dX7_lineOf_42 ?_
        refine lv_iload hx hb dX7_lineOf_43 (lv_at hl 4 rfl) ?_
        refine lv_icmp_ne (tgt := 74) hx hb dX7_lineOf_45 (by decide) (fun c7 => ?_) (fun c7 => ?_)
        · have hB := it_f c7 hB
          refine lv_iload hx hb dX7_lineOf_74 (lv_at hl 5 rfl) ?_
          refine lv_istore (lv' := [(5, .int x2), (0, .ref (ad 45)), (1, .int a1), (2, .int a2), (3, .int a3), (4, .int x1), (6, .int x3)]) hx hb dX7_lineOf_76 hl (by decide) rfl (fun ls hl => ?_)
          obtain ⟨x8, ex8⟩ : ∃ y : Int32, y = x3 + (1 : Int32) := ⟨_, rfl⟩
          have hB := vl_at ex8 hB
          refine lv_iinc (v := x8) (lv' := [(6, .int x8), (5, .int x2), (0, .ref (ad 45)), (1, .int a1), (2, .int a2), (3, .int a3), (4, .int x1)]) hx hb dX7_lineOf_78 hl (k := 6) rfl (by rw [ex8]; rfl) (by decide) rfl (fun ls hl => ?_)
          refine lv_goto (tgt := 19) hx hb dX7_lineOf_81 (by decide) ?_
          exact hI19 _ (Option.some.inj hB).symm H locs ls hS (lv_sub hl [2, 3, 4, 5, 6, 1, 0] rfl)
        · have hB := it_t c7 hB
          refine lv_aload_n hx hb dX7_lineOf_48 rfl (lv_at hl 0 rfl) ?_
          refine r_get (v := .ref (ad 46)) (C := RX7) (T := TX7) (N := 19) hx hb hts hin_X7 hown hK hS (by decide) e_45 rfl 0 (by decide) hk_f7 rfl rfl dX7_lineOf_49 ?_
          refine lv_iload_n hx hb dX7_lineOf_52 rfl (lv_at hl 1 rfl) ?_
          refine lv_bipush (v := (11 : Int32)) hx hb dX7_lineOf_53 (by decide) ?_
          refine lv_iadd hx hb dX7_lineOf_55 ?_
          refine lv_iload hx hb dX7_lineOf_56 (lv_at hl 6 rfl) ?_
          refine lv_iadd hx hb dX7_lineOf_58 ?_
          obtain ⟨h9, hB⟩ := gd_at hB
          refine r_iald hx hb hK hS h9 dX7_lineOf_59 ?_
          refine lv_iload_n hx hb dX7_lineOf_60 rfl (lv_at hl 2 rfl) ?_
          refine lv_iload_n hx hb dX7_lineOf_61 rfl (lv_at hl 3 rfl) ?_
          refine lv_iadd hx hb dX7_lineOf_62 ?_
          refine lv_iload hx hb dX7_lineOf_63 (lv_at hl 4 rfl) ?_
          refine lv_isub hx hb dX7_lineOf_65 ?_
          refine lv_icmp_ne (tgt := 74) hx hb dX7_lineOf_66 (by decide) (fun c10 => ?_) (fun c10 => ?_)
          · have hB := it_f c10 hB
            refine lv_iload hx hb dX7_lineOf_74 (lv_at hl 5 rfl) ?_
            refine lv_istore (lv' := [(5, .int x2), (0, .ref (ad 45)), (1, .int a1), (2, .int a2), (3, .int a3), (4, .int x1), (6, .int x3)]) hx hb dX7_lineOf_76 hl (by decide) rfl (fun ls hl => ?_)
            obtain ⟨x11, ex11⟩ : ∃ y : Int32, y = x3 + (1 : Int32) := ⟨_, rfl⟩
            have hB := vl_at ex11 hB
            refine lv_iinc (v := x11) (lv' := [(6, .int x11), (5, .int x2), (0, .ref (ad 45)), (1, .int a1), (2, .int a2), (3, .int a3), (4, .int x1)]) hx hb dX7_lineOf_78 hl (k := 6) rfl (by rw [ex11]; rfl) (by decide) rfl (fun ls hl => ?_)
            refine lv_goto (tgt := 19) hx hb dX7_lineOf_81 (by decide) ?_
            exact hI19 _ (Option.some.inj hB).symm H locs ls hS (lv_sub hl [2, 3, 4, 5, 6, 1, 0] rfl)
          · have hB := it_t c10 hB
            refine lv_iload hx hb dX7_lineOf_69 (lv_at hl 6 rfl) ?_
            refine lv_goto (tgt := 76) hx hb dX7_lineOf_71 (by decide) ?_
            refine lv_istore (lv' := [(5, .int x3), (0, .ref (ad 45)), (1, .int a1), (2, .int a2), (3, .int a3), (4, .int x1), (6, .int x3)]) hx hb dX7_lineOf_76 hl (by decide) rfl (fun ls hl => ?_)
            obtain ⟨x12, ex12⟩ : ∃ y : Int32, y = x3 + (1 : Int32) := ⟨_, rfl⟩
            have hB := vl_at ex12 hB
            refine lv_iinc (v := x12) (lv' := [(6, .int x12), (5, .int x3), (0, .ref (ad 45)), (1, .int a1), (2, .int a2), (3, .int a3), (4, .int x1)]) hx hb dX7_lineOf_78 hl (k := 6) rfl (by rw [ex12]; rfl) (by decide) rfl (fun ls hl => ?_)
            refine lv_goto (tgt := 19) hx hb dX7_lineOf_81 (by decide) ?_
            exact hI19 _ (Option.some.inj hB).symm H locs ls hS (lv_sub hl [2, 3, 4, 5, 6, 1, 0] rfl)
    · skip
      intro H locs ls hS hl
      have hS : ST dC dI ad cA s σ H locs := hS
      have hl : lv_has ls 7 [(5, .int t13)] := hl
      show W p l e (RM 0 0) s m args below meth c H locs 0 0 Q (F0 m 84 ls [])
      refine lv_iload hx hb dX7_lineOf_84 (lv_at hl 0 rfl) ?_
      subst hQ
      exact r_iret hx hb hr hK hS (pz hB) hlocks dX7_lineOf_86
  refine lv_icmp_ge (tgt := 9) hx hb dX7_lineOf_2 (by decide) (fun c14 => ?_) (fun c14 => ?_)
  · have hB := it_t c14 hB
    refine lv_iload_n hx hb dX7_lineOf_9 rfl (lv_at hl 3 rfl) ?_
    exact hJ10 a3 H locs ls hB hS (lv_sub hl [0, 1, 2, 3] rfl)
  · have hB := it_f c14 hB
    refine lv_iload_n hx hb dX7_lineOf_5 rfl (lv_at hl 2 rfl) ?_
    refine lv_goto (tgt := 10) hx hb dX7_lineOf_6 (by decide) ?_
    exact hJ10 a2 H locs ls hB hS (lv_sub hl [0, 1, 2, 3] rfl)
set_option maxHeartbeats 4000000 in
set_option maxRecDepth 100000 in
theorem c_X7_adds (l : Launch) (dC : Nat → ClassId) (dI : Nat → Nat → Nat) (ad : Nat → Nat) (cA : Nat → ClassId) (σ : Sg) (a1 : Int32) (a2 : Int32) (a3 : Int32) (a4 : Int32) (z : Sg) (hB : f_X7_adds σ a1 a2 a3 a4 = some z) : Kv l dC dI ad cA yX7_adds wsX7_adds 0 0 [.ref (ad 45), .int a1, .int a2, .int a3, .int a4] σ z := by
  refine mk_v (cc := cX7_adds) (maxL := 8) (ret := none) (by decide) rfl (Nat.le_of_ble_eq_true rfl) ?_
  intro p e s m args below meth c Q H locs ls ⟨hx, hb, hr, hml, hown, hts, hlocks, hK, hN⟩ hQ hS hl
  have hown : s.vm.findClass RX7 = some m.cls := hown
  have hl : lv_has ls 8 [(0, .ref (ad 45)), (1, .int a1), (2, .int a2), (3, .int a3), (4, .int a4)] := hl
  have hk_f7 := hts (.fieldLink RX7 7 "ChanceNetsModel" "rows" "[I") (by decide +kernel)
  have hin_X7 : ∀ w ∈ u_ws RX7 TX7 19, w ∈ wsX7_adds := by decide +kernel
  unfold f_X7_adds at hB
  refine lv_iload_n hx hb dX7_adds_0 rfl (lv_at hl 2 rfl) ?_
  refine lv_iload_n hx hb dX7_adds_1 rfl (lv_at hl 3 rfl) ?_
  have hJ10 : ∀ (x1 : Int32) (H : Heap) (locs : List Loc) (ls : Array Slot), f_X7_adds_J10 σ a1 a2 a3 a4 x1 = some z → ST dC dI ad cA s σ H locs → lv_has ls 8 [(0, .ref (ad 45)), (1, .int a1), (2, .int a2), (3, .int a3), (4, .int a4)] → W p l e (RM 0 0) s m args below meth c H locs 0 0 Q (F0 m 10 ls [.int x1]) := by
    intro x1 H locs ls hB hS hl
    unfold f_X7_adds_J10 at hB
    refine lv_istore (lv' := [(5, .int x1), (0, .ref (ad 45)), (1, .int a1), (2, .int a2), (3, .int a3), (4, .int a4)]) hx hb dX7_adds_10 hl (by decide) rfl (fun ls hl => ?_)
    refine lv_iload_n hx hb dX7_adds_12 rfl (lv_at hl 3 rfl) ?_
    refine lv_iload_n hx hb dX7_adds_13 rfl (lv_at hl 4 rfl) ?_
    refine lv_iadd hx hb dX7_adds_14 ?_
    refine lv_iload hx hb dX7_adds_15 (lv_at hl 0 rfl) ?_
    refine lv_isub hx hb dX7_adds_17 ?_
    refine lv_topi (fun x2 ex2 => ?_)
    have hB := vl_at ex2 hB
    refine lv_istore (lv' := [(6, .int x2), (5, .int x1), (0, .ref (ad 45)), (1, .int a1), (2, .int a2), (3, .int a3), (4, .int a4)]) hx hb dX7_adds_18 hl (by decide) rfl (fun ls hl => ?_)
    refine lv_aload_n hx hb dX7_adds_20 rfl (lv_at hl 2 rfl) ?_
    refine r_get (v := .ref (ad 46)) (C := RX7) (T := TX7) (N := 19) hx hb hts hin_X7 hown hK hS (by decide) e_45 rfl 0 (by decide) hk_f7 rfl rfl dX7_adds_21 ?_
    refine lv_iload_n hx hb dX7_adds_24 rfl (lv_at hl 3 rfl) ?_
    refine lv_iconst (v := (0 : Int32)) hx hb dX7_adds_25 (by decide) ?_
    refine lv_iadd hx hb dX7_adds_26 ?_
    obtain ⟨h3, hB⟩ := gd_at hB
    refine r_iald hx hb hK hS h3 dX7_adds_27 ?_
    refine lv_topi (fun x4 ex4 => ?_)
    have hB := vl_at ex4 hB
    refine lv_istore (lv' := [(7, .int x4), (6, .int x2), (5, .int x1), (0, .ref (ad 45)), (1, .int a1), (2, .int a2), (3, .int a3), (4, .int a4)]) hx hb dX7_adds_28 hl (by decide) rfl (fun ls hl => ?_)
    obtain ⟨t24, ht24, hB⟩ := bi_at hB
    refine wl_W (body := fun a => f_X7_adds_B30 a1 x1 x2 a.1 a.2) (Hd := fun a : Int32 × Sg => ∀ (H : Heap) (locs : List Loc) (ls : Array Slot), ST dC dI ad cA s a.2 H locs → lv_has ls 8 [(0, .ref (ad 45)), (1, .int a1), (4, .int a4), (5, .int x1), (6, .int x2), (7, .int a.1)] → W p l e (RM 0 0) s m args below meth c H locs 0 0 Q (F0 m 30 ls [])) (Ex := fun b : Int32 × Sg => ∀ (H : Heap) (locs : List Loc) (ls : Array Slot), ST dC dI ad cA s b.2 H locs → lv_has ls 8 [(0, .ref (ad 45)), (1, .int a1), (4, .int a4), (5, .int x1), (6, .int x2), (7, .int b.1)] → W p l e (RM 0 0) s m args below meth c H locs 0 0 Q (F0 m 159 ls [])) ?_ FU _ t24 ht24 ?_ H locs ls hS (lv_sub hl [3, 4, 7, 2, 1, 0] rfl)
    · intro a r30 hB hI30 hE30 H locs ls hS hl
      obtain ⟨x5, σ6⟩ := a
      have hB : f_X7_adds_B30 a1 x1 x2 x5 σ6 = some r30 := hB
      unfold f_X7_adds_B30 at hB
      have hS : ST dC dI ad cA s σ6 H locs := hS
      have hl : lv_has ls 8 [(0, .ref (ad 45)), (1, .int a1), (4, .int a4), (5, .int x1), (6, .int x2), (7, .int x5)] := hl
      show W p l e (RM 0 0) s m args below meth c H locs 0 0 Q (F0 m 30 ls [])
      refine lv_iload hx hb dX7_adds_30 (lv_at hl 5 rfl) ?_
      refine lv_if_le (tgt := 159) hx hb dX7_adds_32 (by decide) (fun c7 => ?_) (fun c7 => ?_)
      · have hB := it_t c7 hB
        exact hE30 _ (Option.some.inj hB).symm H locs ls hS (lv_sub hl [0, 1, 2, 3, 4, 5] rfl)
      · have hB := it_f c7 hB
        refine lv_bipush (v := (6 : Int32)) hx hb dX7_adds_35 (by decide) ?_
        refine lv_aload_n hx hb dX7_adds_37 rfl (lv_at hl 0 rfl) ?_
        refine r_get (v := .ref (ad 46)) (C := RX7) (T := TX7) (N := 19) hx hb hts hin_X7 hown hK hS (by decide) e_45 rfl 0 (by decide) hk_f7 rfl rfl dX7_adds_38 ?_
        refine lv_iload_n hx hb dX7_adds_41 rfl (lv_at hl 1 rfl) ?_
        refine lv_iconst (v := (1 : Int32)) hx hb dX7_adds_42 (by decide) ?_
        refine lv_iadd hx hb dX7_adds_43 ?_
        refine lv_iload hx hb dX7_adds_44 (lv_at hl 5 rfl) ?_
        refine lv_iadd hx hb dX7_adds_46 ?_
        refine lv_iconst (v := (1 : Int32)) hx hb dX7_adds_47 (by decide) ?_
        refine lv_isub hx hb dX7_adds_48 ?_
        obtain ⟨h8, hB⟩ := gd_at hB
        refine r_iald hx hb hK hS h8 dX7_adds_49 ?_
        refine lv_imul hx hb dX7_adds_50 ?_
        refine lv_aload_n hx hb dX7_adds_51 rfl (lv_at hl 0 rfl) ?_
        refine r_get (v := .ref (ad 46)) (C := RX7) (T := TX7) (N := 19) hx hb hts hin_X7 hown hK hS (by decide) e_45 rfl 0 (by decide) hk_f7 rfl rfl dX7_adds_52 ?_
        refine lv_iload_n hx hb dX7_adds_55 rfl (lv_at hl 1 rfl) ?_
        refine lv_bipush (v := (11 : Int32)) hx hb dX7_adds_56 (by decide) ?_
        refine lv_iadd hx hb dX7_adds_58 ?_
        refine lv_iload hx hb dX7_adds_59 (lv_at hl 5 rfl) ?_
        refine lv_iadd hx hb dX7_adds_61 ?_
        refine lv_iconst (v := (1 : Int32)) hx hb dX7_adds_62 (by decide) ?_
        refine lv_isub hx hb dX7_adds_63 ?_
        obtain ⟨h9, hB⟩ := gd_at hB
        refine r_iald hx hb hK hS h9 dX7_adds_64 ?_
        refine lv_iadd hx hb dX7_adds_65 ?_
        refine lv_bipush (v := (6 : Int32)) hx hb dX7_adds_66 (by decide) ?_
        refine lv_iload hx hb dX7_adds_68 (lv_at hl 3 rfl) ?_
        refine lv_imul hx hb dX7_adds_70 ?_
        refine lv_iload hx hb dX7_adds_71 (lv_at hl 4 rfl) ?_
        refine lv_iadd hx hb dX7_adds_73 ?_
        refine lv_icmp_le (tgt := 159) hx hb dX7_adds_74 (by decide) (fun c10 => ?_) (fun c10 => ?_)
        · have hB := it_t c10 hB
          exact hE30 _ (Option.some.inj hB).symm H locs ls hS (lv_sub hl [0, 1, 2, 3, 4, 5] rfl)
        · have hB := it_f c10 hB
          refine lv_aload_n hx hb dX7_adds_77 rfl (lv_at hl 0 rfl) ?_
          refine r_get (v := .ref (ad 46)) (C := RX7) (T := TX7) (N := 19) hx hb hts hin_X7 hown hK hS (by decide) e_45 rfl 0 (by decide) hk_f7 rfl rfl dX7_adds_78 ?_
          refine lv_iload_n hx hb dX7_adds_81 rfl (lv_at hl 1 rfl) ?_
          refine lv_iconst (v := (1 : Int32)) hx hb dX7_adds_82 (by decide) ?_
          refine lv_iadd hx hb dX7_adds_83 ?_
          refine lv_iload hx hb dX7_adds_84 (lv_at hl 5 rfl) ?_
          refine lv_iadd hx hb dX7_adds_86 ?_
          refine lv_aload_n hx hb dX7_adds_87 rfl (lv_at hl 0 rfl) ?_
          refine r_get (v := .ref (ad 46)) (C := RX7) (T := TX7) (N := 19) hx hb hts hin_X7 hown hK hS (by decide) e_45 rfl 0 (by decide) hk_f7 rfl rfl dX7_adds_88 ?_
          refine lv_iload_n hx hb dX7_adds_91 rfl (lv_at hl 1 rfl) ?_
          refine lv_iconst (v := (1 : Int32)) hx hb dX7_adds_92 (by decide) ?_
          refine lv_iadd hx hb dX7_adds_93 ?_
          refine lv_iload hx hb dX7_adds_94 (lv_at hl 5 rfl) ?_
          refine lv_iadd hx hb dX7_adds_96 ?_
          refine lv_iconst (v := (1 : Int32)) hx hb dX7_adds_97 (by decide) ?_
          refine lv_isub hx hb dX7_adds_98 ?_
          obtain ⟨h11, hB⟩ := gd_at hB
          refine r_iald hx hb hK hS h11 dX7_adds_99 ?_
          refine lv_topi (fun x12 ex12 => ?_)
          have hB := vl_at ex12 hB
          obtain ⟨h13, hB⟩ := gd_at hB
          refine r_iast hx hb hK hS h13 dX7_adds_100 (fun H locs hS => ?_)
          obtain ⟨σ14, eσ14⟩ : ∃ t : Sg, t = pA σ6 46 ((a1 + (1 : Int32)) + x5).toNatClampNeg x12 := ⟨_, rfl⟩
          rw [← eσ14] at hS
          have hB := vl_at eσ14 hB
          refine lv_aload_n hx hb dX7_adds_101 rfl (lv_at hl 0 rfl) ?_
          refine r_get (v := .ref (ad 46)) (C := RX7) (T := TX7) (N := 19) hx hb hts hin_X7 hown hK hS (by decide) e_45 rfl 0 (by decide) hk_f7 rfl rfl dX7_adds_102 ?_
          refine lv_iload_n hx hb dX7_adds_105 rfl (lv_at hl 1 rfl) ?_
          refine lv_bipush (v := (11 : Int32)) hx hb dX7_adds_106 (by decide) ?_
          refine lv_iadd hx hb dX7_adds_108 ?_
          refine lv_iload hx hb dX7_adds_109 (lv_at hl 5 rfl) ?_
          refine lv_iadd hx hb dX7_adds_111 ?_
          refine lv_aload_n hx hb dX7_adds_112 rfl (lv_at hl 0 rfl) ?_
          refine r_get (v := .ref (ad 46)) (C := RX7) (T := TX7) (N := 19) hx hb hts hin_X7 hown hK hS (by decide) e_45 rfl 0 (by decide) hk_f7 rfl rfl dX7_adds_113 ?_
          refine lv_iload_n hx hb dX7_adds_116 rfl (lv_at hl 1 rfl) ?_
          refine lv_bipush (v := (11 : Int32)) hx hb dX7_adds_117 (by decide) ?_
          refine lv_iadd hx hb dX7_adds_119 ?_
          refine lv_iload hx hb dX7_adds_120 (lv_at hl 5 rfl) ?_
          refine lv_iadd hx hb dX7_adds_122 ?_
          refine lv_iconst (v := (1 : Int32)) hx hb dX7_adds_123 (by decide) ?_
          refine lv_isub hx hb dX7_adds_124 ?_
          obtain ⟨h15, hB⟩ := gd_at hB
          refine r_iald hx hb hK hS h15 dX7_adds_125 ?_
          refine lv_topi (fun x16 ex16 => ?_)
          have hB := vl_at ex16 hB
          obtain ⟨h17, hB⟩ := gd_at hB
          refine r_iast hx hb hK hS h17 dX7_adds_126 (fun H locs hS => ?_)
          obtain ⟨σ18, eσ18⟩ : ∃ t : Sg, t = pA σ14 46 ((a1 + (11 : Int32)) + x5).toNatClampNeg x16 := ⟨_, rfl⟩
          rw [← eσ18] at hS
          have hB := vl_at eσ18 hB
          refine lv_aload_n hx hb dX7_adds_127 rfl (lv_at hl 0 rfl) ?_
          refine r_get (v := .ref (ad 46)) (C := RX7) (T := TX7) (N := 19) hx hb hts hin_X7 hown hK hS (by decide) e_45 rfl 0 (by decide) hk_f7 rfl rfl dX7_adds_128 ?_
          refine lv_iload_n hx hb dX7_adds_131 rfl (lv_at hl 1 rfl) ?_
          refine lv_bipush (v := (21 : Int32)) hx hb dX7_adds_132 (by decide) ?_
          refine lv_iadd hx hb dX7_adds_134 ?_
          refine lv_iload hx hb dX7_adds_135 (lv_at hl 5 rfl) ?_
          refine lv_iadd hx hb dX7_adds_137 ?_
          refine lv_aload_n hx hb dX7_adds_138 rfl (lv_at hl 0 rfl) ?_
          refine r_get (v := .ref (ad 46)) (C := RX7) (T := TX7) (N := 19) hx hb hts hin_X7 hown hK hS (by decide) e_45 rfl 0 (by decide) hk_f7 rfl rfl dX7_adds_139 ?_
          refine lv_iload_n hx hb dX7_adds_142 rfl (lv_at hl 1 rfl) ?_
          refine lv_bipush (v := (21 : Int32)) hx hb dX7_adds_143 (by decide) ?_
          refine lv_iadd hx hb dX7_adds_145 ?_
          refine lv_iload hx hb dX7_adds_146 (lv_at hl 5 rfl) ?_
          refine lv_iadd hx hb dX7_adds_148 ?_
          refine lv_iconst (v := (1 : Int32)) hx hb dX7_adds_149 (by decide) ?_
          refine lv_isub hx hb dX7_adds_150 ?_
          obtain ⟨h19, hB⟩ := gd_at hB
          refine r_iald hx hb hK hS h19 dX7_adds_151 ?_
          refine lv_topi (fun x20 ex20 => ?_)
          have hB := vl_at ex20 hB
          obtain ⟨h21, hB⟩ := gd_at hB
          refine r_iast hx hb hK hS h21 dX7_adds_152 (fun H locs hS => ?_)
          obtain ⟨σ22, eσ22⟩ : ∃ t : Sg, t = pA σ18 46 ((a1 + (21 : Int32)) + x5).toNatClampNeg x20 := ⟨_, rfl⟩
          rw [← eσ22] at hS
          have hB := vl_at eσ22 hB
          obtain ⟨x23, ex23⟩ : ∃ y : Int32, y = x5 + (-1 : Int32) := ⟨_, rfl⟩
          have hB := vl_at ex23 hB
          refine lv_iinc (v := x23) (lv' := [(7, .int x23), (0, .ref (ad 45)), (1, .int a1), (4, .int a4), (5, .int x1), (6, .int x2)]) hx hb dX7_adds_153 hl (k := 5) rfl (by rw [ex23]; rfl) (by decide) rfl (fun ls hl => ?_)
          refine lv_goto (tgt := 30) hx hb dX7_adds_156 (by decide) ?_
          exact hI30 _ (Option.some.inj hB).symm H locs ls hS (lv_sub hl [1, 2, 3, 4, 5, 0] rfl)
    · skip
      intro H locs ls hS hl
      have hS : ST dC dI ad cA s t24.2 H locs := hS
      have hl : lv_has ls 8 [(0, .ref (ad 45)), (1, .int a1), (4, .int a4), (5, .int x1), (6, .int x2), (7, .int t24.1)] := hl
      show W p l e (RM 0 0) s m args below meth c H locs 0 0 Q (F0 m 159 ls [])
      refine lv_aload_n hx hb dX7_adds_159 rfl (lv_at hl 0 rfl) ?_
      refine r_get (v := .ref (ad 46)) (C := RX7) (T := TX7) (N := 19) hx hb hts hin_X7 hown hK hS (by decide) e_45 rfl 0 (by decide) hk_f7 rfl rfl dX7_adds_160 ?_
      refine lv_iload_n hx hb dX7_adds_163 rfl (lv_at hl 1 rfl) ?_
      refine lv_iconst (v := (1 : Int32)) hx hb dX7_adds_164 (by decide) ?_
      refine lv_iadd hx hb dX7_adds_165 ?_
      refine lv_iload hx hb dX7_adds_166 (lv_at hl 5 rfl) ?_
      refine lv_iadd hx hb dX7_adds_168 ?_
      refine lv_iload hx hb dX7_adds_169 (lv_at hl 3 rfl) ?_
      obtain ⟨h25, hB⟩ := gd_at hB
      refine r_iast hx hb hK hS h25 dX7_adds_171 (fun H locs hS => ?_)
      obtain ⟨σ26, eσ26⟩ : ∃ t : Sg, t = pA t24.2 46 ((a1 + (1 : Int32)) + t24.1).toNatClampNeg x1 := ⟨_, rfl⟩
      rw [← eσ26] at hS
      have hB := vl_at eσ26 hB
      refine lv_aload_n hx hb dX7_adds_172 rfl (lv_at hl 0 rfl) ?_
      refine r_get (v := .ref (ad 46)) (C := RX7) (T := TX7) (N := 19) hx hb hts hin_X7 hown hK hS (by decide) e_45 rfl 0 (by decide) hk_f7 rfl rfl dX7_adds_173 ?_
      refine lv_iload_n hx hb dX7_adds_176 rfl (lv_at hl 1 rfl) ?_
      refine lv_bipush (v := (11 : Int32)) hx hb dX7_adds_177 (by decide) ?_
      refine lv_iadd hx hb dX7_adds_179 ?_
      refine lv_iload hx hb dX7_adds_180 (lv_at hl 5 rfl) ?_
      refine lv_iadd hx hb dX7_adds_182 ?_
      refine lv_iload hx hb dX7_adds_183 (lv_at hl 4 rfl) ?_
      obtain ⟨h27, hB⟩ := gd_at hB
      refine r_iast hx hb hK hS h27 dX7_adds_185 (fun H locs hS => ?_)
      obtain ⟨σ28, eσ28⟩ : ∃ t : Sg, t = pA σ26 46 ((a1 + (11 : Int32)) + t24.1).toNatClampNeg x2 := ⟨_, rfl⟩
      rw [← eσ28] at hS
      have hB := vl_at eσ28 hB
      refine lv_aload_n hx hb dX7_adds_186 rfl (lv_at hl 0 rfl) ?_
      refine r_get (v := .ref (ad 46)) (C := RX7) (T := TX7) (N := 19) hx hb hts hin_X7 hown hK hS (by decide) e_45 rfl 0 (by decide) hk_f7 rfl rfl dX7_adds_187 ?_
      refine lv_iload_n hx hb dX7_adds_190 rfl (lv_at hl 1 rfl) ?_
      refine lv_bipush (v := (21 : Int32)) hx hb dX7_adds_191 (by decide) ?_
      refine lv_iadd hx hb dX7_adds_193 ?_
      refine lv_iload hx hb dX7_adds_194 (lv_at hl 5 rfl) ?_
      refine lv_iadd hx hb dX7_adds_196 ?_
      refine lv_iload hx hb dX7_adds_197 (lv_at hl 2 rfl) ?_
      obtain ⟨h29, hB⟩ := gd_at hB
      refine r_iast hx hb hK hS h29 dX7_adds_199 (fun H locs hS => ?_)
      obtain ⟨σ30, eσ30⟩ : ∃ t : Sg, t = pA σ28 46 ((a1 + (21 : Int32)) + t24.1).toNatClampNeg a4 := ⟨_, rfl⟩
      rw [← eσ30] at hS
      have hB := vl_at eσ30 hB
      refine lv_aload_n hx hb dX7_adds_200 rfl (lv_at hl 0 rfl) ?_
      refine r_get (v := .ref (ad 46)) (C := RX7) (T := TX7) (N := 19) hx hb hts hin_X7 hown hK hS (by decide) e_45 rfl 0 (by decide) hk_f7 rfl rfl dX7_adds_201 ?_
      refine lv_iload_n hx hb dX7_adds_204 rfl (lv_at hl 1 rfl) ?_
      refine lv_iconst (v := (0 : Int32)) hx hb dX7_adds_205 (by decide) ?_
      refine lv_iadd hx hb dX7_adds_206 ?_
      refine lv_dup2_11 hx hb dX7_adds_207 rfl rfl ?_
      obtain ⟨h31, hB⟩ := gd_at hB
      refine r_iald hx hb hK hS h31 dX7_adds_208 ?_
      refine lv_iconst (v := (1 : Int32)) hx hb dX7_adds_209 (by decide) ?_
      refine lv_iadd hx hb dX7_adds_210 ?_
      refine lv_topi (fun x32 ex32 => ?_)
      have hB := vl_at ex32 hB
      obtain ⟨h33, hB⟩ := gd_at hB
      refine r_iast hx hb hK hS h33 dX7_adds_211 (fun H locs hS => ?_)
      obtain ⟨σ34, eσ34⟩ : ∃ t : Sg, t = pA σ30 46 (a1 + (0 : Int32)).toNatClampNeg x32 := ⟨_, rfl⟩
      rw [← eσ34] at hS
      have hB := vl_at eσ34 hB
      subst hQ
      exact r_vret hx hb hr hK hS hB hlocks dX7_adds_212
  refine lv_icmp_ge (tgt := 9) hx hb dX7_adds_2 (by decide) (fun c35 => ?_) (fun c35 => ?_)
  · have hB := it_t c35 hB
    refine lv_iload_n hx hb dX7_adds_9 rfl (lv_at hl 3 rfl) ?_
    exact hJ10 a3 H locs ls hB hS (lv_sub hl [0, 1, 2, 3, 4] rfl)
  · have hB := it_f c35 hB
    refine lv_iload_n hx hb dX7_adds_5 rfl (lv_at hl 2 rfl) ?_
    refine lv_goto (tgt := 10) hx hb dX7_adds_6 (by decide) ?_
    exact hJ10 a2 H locs ls hB hS (lv_sub hl [0, 1, 2, 3, 4] rfl)
set_option maxHeartbeats 4000000 in
set_option maxRecDepth 100000 in
theorem c_X7_type (l : Launch) (dC : Nat → ClassId) (dI : Nat → Nat → Nat) (ad : Nat → Nat) (cA : Nat → ClassId) (σ : Sg) (a1 : Int32) (z : Int32 × Sg) (hB : f_X7_type σ a1 = some z) : Ki l dC dI ad cA yX7_type wsX7_type 1 25 [.ref (ad 45), .int a1] σ z := by
  refine mk_i (cc := cX7_type) (maxL := 2) (ret := (some .int)) (by decide) rfl (Nat.le_of_ble_eq_true rfl) ?_
  intro p e s m args below meth c Q H locs ls ⟨hx, hb, hr, hml, hown, hts, hlocks, hK, hN⟩ hQ hS hl
  have hown : s.vm.findClass RX7 = some m.cls := hown
  have hl : lv_has ls 2 [(0, .ref (ad 45)), (1, .int a1)] := hl
  have hk_c46 := hts (.constantLong RX7 46 (255)) (by decide +kernel)
  have hk_f52 := hts (.fieldLink RX7 52 "ChanceNetsModel" "length" "I") (by decide +kernel)
  have hin_X7 : ∀ w ∈ u_ws RX7 TX7 19, w ∈ wsX7_type := by decide +kernel
  have hk_f21 := hts (.fieldLink RX7 21 "ChanceNetsModel" "text" "[I") (by decide +kernel)
  unfold f_X7_type at hB
  refine lv_iload_n hx hb dX7_type_0 rfl (lv_at hl 1 rfl) ?_
  refine lv_i2l hx hb dX7_type_1 rfl ?_
  refine lv_lconst (v := (0 : Int64)) hx hb dX7_type_2 (by decide) ?_
  refine lv_ldc2 (v := (255 : Int64)) hx hb hown hk_c46 dX7_type_3 ?_
  obtain ⟨t1, ht1, hB⟩ := bi_at hB
  refine r_SiP ⟨hx, hb, hml, hown, hts⟩ (c_X7_in l dC dI ad cA σ a1.toInt64 (0 : Int64) (255 : Int64) t1 ht1) (va_cwS 3 hts gX7_type_X7_in rfl rfl rfl (by decide +kernel) ⟨Nat.le_of_ble_eq_true rfl, Nat.le_of_ble_eq_true rfl⟩) hK hN hS rfl hl.1 rfl (Nat.le_of_ble_eq_true rfl) dX7_type_6 ⟨Nat.le_refl _, Nat.le_refl _⟩ (fun H locs hS => ?_)
  refine lv_if_ne (tgt := 14) hx hb dX7_type_9 (by decide) (fun c2 => ?_) (fun c2 => ?_)
  · have hB := it_f c2 hB
    refine lv_aload_n hx hb dX7_type_14 rfl (lv_at hl 0 rfl) ?_
    refine r_get (v := .int (gI σ 19)) (C := RX7) (T := TX7) (N := 19) hx hb hts hin_X7 hown hK hS (by decide) e_45 rfl 5 (by decide) hk_f52 rfl rfl dX7_type_15 ?_
    refine lv_bipush (v := (80 : Int32)) hx hb dX7_type_18 (by decide) ?_
    refine lv_icmp_ne (tgt := 26) hx hb dX7_type_20 (by decide) (fun c3 => ?_) (fun c3 => ?_)
    · have hB := it_f c3 hB
      refine lv_aload_n hx hb dX7_type_26 rfl (lv_at hl 0 rfl) ?_
      refine r_get (v := .ref (ad 48)) (C := RX7) (T := TX7) (N := 19) hx hb hts hin_X7 hown hK hS (by decide) e_45 rfl 4 (by decide) hk_f21 rfl rfl dX7_type_27 ?_
      refine lv_aload_n hx hb dX7_type_30 rfl (lv_at hl 0 rfl) ?_
      refine r_get (v := .int (gI σ 19)) (C := RX7) (T := TX7) (N := 19) hx hb hts hin_X7 hown hK hS (by decide) e_45 rfl 5 (by decide) hk_f52 rfl rfl dX7_type_31 ?_
      refine lv_iload_n hx hb dX7_type_34 rfl (lv_at hl 1 rfl) ?_
      obtain ⟨h4, hB⟩ := gd_at hB
      refine r_iast hx hb hK hS h4 dX7_type_35 (fun H locs hS => ?_)
      obtain ⟨σ5, eσ5⟩ : ∃ t : Sg, t = pA σ 48 (gI σ 19).toNatClampNeg a1 := ⟨_, rfl⟩
      rw [← eσ5] at hS
      have hB := vl_at eσ5 hB
      refine lv_aload_n hx hb dX7_type_36 rfl (lv_at hl 0 rfl) ?_
      refine lv_dup hx hb dX7_type_37 rfl ?_
      refine r_get (v := .int (gI σ5 19)) (C := RX7) (T := TX7) (N := 19) hx hb hts hin_X7 hown hK hS (by decide) e_45 rfl 5 (by decide) hk_f52 rfl rfl dX7_type_38 ?_
      refine lv_iconst (v := (1 : Int32)) hx hb dX7_type_41 (by decide) ?_
      refine lv_iadd hx hb dX7_type_42 ?_
      refine lv_topi (fun x6 ex6 => ?_)
      have hB := vl_at ex6 hB
      refine r_put (σ' := pI σ5 19 x6) (v := .int x6) (C := RX7) (T := TX7) (N := 19) hx hb hts hin_X7 tyX7 tyX7_ok nmX7 hown hK hS (by decide) e_45 rfl 5 (by decide) hk_f52 rfl rfl rfl rfl (Nat.le_of_ble_eq_true rfl) (fun d hd h => eo d hd h) rfl dX7_type_43 (fun H locs hS => ?_)
      obtain ⟨σ7, eσ7⟩ : ∃ t : Sg, t = pI σ5 19 x6 := ⟨_, rfl⟩
      rw [← eσ7] at hS
      have hB := vl_at eσ7 hB
      refine lv_aload_n hx hb dX7_type_46 rfl (lv_at hl 0 rfl) ?_
      refine r_get (v := .int (gI σ7 19)) (C := RX7) (T := TX7) (N := 19) hx hb hts hin_X7 hown hK hS (by decide) e_45 rfl 5 (by decide) hk_f52 rfl rfl dX7_type_47 ?_
      subst hQ
      exact r_iret hx hb hr hK hS hB hlocks dX7_type_50
    · have hB := it_t c3 hB
      refine lv_bipush (v := (-3 : Int32)) hx hb dX7_type_23 (by decide) ?_
      subst hQ
      exact r_iret hx hb hr hK hS hB hlocks dX7_type_25
  · have hB := it_t c2 hB
    refine lv_iconst (v := (-1 : Int32)) hx hb dX7_type_12 (by decide) ?_
    subst hQ
    exact r_iret hx hb hr hK hS hB hlocks dX7_type_13
set_option maxHeartbeats 4000000 in
set_option maxRecDepth 100000 in
theorem c_X7_clear (l : Launch) (dC : Nat → ClassId) (dI : Nat → Nat → Nat) (ad : Nat → Nat) (cA : Nat → ClassId) (σ : Sg)  (z : Int32 × Sg) (hB : f_X7_clear σ = some z) : Ki l dC dI ad cA yX7_clear wsX7_clear 0 0 [.ref (ad 45)] σ z := by
  refine mk_i (cc := cX7_clear) (maxL := 2) (ret := (some .int)) (by decide) rfl (Nat.le_of_ble_eq_true rfl) ?_
  intro p e s m args below meth c Q H locs ls ⟨hx, hb, hr, hml, hown, hts, hlocks, hK, hN⟩ hQ hS hl
  have hown : s.vm.findClass RX7 = some m.cls := hown
  have hl : lv_has ls 2 [(0, .ref (ad 45))] := hl
  have hk_f52 := hts (.fieldLink RX7 52 "ChanceNetsModel" "length" "I") (by decide +kernel)
  have hin_X7 : ∀ w ∈ u_ws RX7 TX7 19, w ∈ wsX7_clear := by decide +kernel
  unfold f_X7_clear at hB
  refine lv_aload_n hx hb dX7_clear_0 rfl (lv_at hl 0 rfl) ?_
  refine r_get (v := .int (gI σ 19)) (C := RX7) (T := TX7) (N := 19) hx hb hts hin_X7 hown hK hS (by decide) e_45 rfl 5 (by decide) hk_f52 rfl rfl dX7_clear_1 ?_
  refine lv_topi (fun x1 ex1 => ?_)
  have hB := vl_at ex1 hB
  refine lv_istore_n (lv' := [(1, .int x1), (0, .ref (ad 45))]) hx hb dX7_clear_4 rfl hl (by decide) rfl (fun ls hl => ?_)
  refine lv_aload_n hx hb dX7_clear_5 rfl (lv_at hl 1 rfl) ?_
  refine lv_iconst (v := (0 : Int32)) hx hb dX7_clear_6 (by decide) ?_
  refine r_put (σ' := pI σ 19 (0 : Int32)) (v := .int (0 : Int32)) (C := RX7) (T := TX7) (N := 19) hx hb hts hin_X7 tyX7 tyX7_ok nmX7 hown hK hS (by decide) e_45 rfl 5 (by decide) hk_f52 rfl rfl rfl rfl (Nat.le_of_ble_eq_true rfl) (fun d hd h => eo d hd h) rfl dX7_clear_7 (fun H locs hS => ?_)
  obtain ⟨σ2, eσ2⟩ : ∃ t : Sg, t = pI σ 19 (0 : Int32) := ⟨_, rfl⟩
  rw [← eσ2] at hS
  have hB := vl_at eσ2 hB
  refine lv_iload_n hx hb dX7_clear_10 rfl (lv_at hl 0 rfl) ?_
  subst hQ
  exact r_iret hx hb hr hK hS hB hlocks dX7_clear_11
set_option maxHeartbeats 4000000 in
set_option maxRecDepth 100000 in
theorem c_X7_next (l : Launch) (dC : Nat → ClassId) (dI : Nat → Nat → Nat) (ad : Nat → Nat) (cA : Nat → ClassId) (σ : Sg)  (z : Sg) (hB : f_X7_next σ = some z) : Kv l dC dI ad cA yX7_next wsX7_next 1 25 [.ref (ad 45)] σ z := by
  refine mk_v (cc := cX7_next) (maxL := 1) (ret := none) (by decide) rfl (Nat.le_of_ble_eq_true rfl) ?_
  intro p e s m args below meth c Q H locs ls ⟨hx, hb, hr, hml, hown, hts, hlocks, hK, hN⟩ hQ hS hl
  have hown : s.vm.findClass RX7 = some m.cls := hown
  have hl : lv_has ls 1 [(0, .ref (ad 45))] := hl
  have hk_f55 := hts (.fieldLink RX7 55 "ChanceNetsModel" "behind" "I") (by decide +kernel)
  have hin_X7 : ∀ w ∈ u_ws RX7 TX7 19, w ∈ wsX7_next := by decide +kernel
  have hk_f58 := hts (.fieldLink RX7 58 "ChanceNetsModel" "first" "I") (by decide +kernel)
  have hk_f52 := hts (.fieldLink RX7 52 "ChanceNetsModel" "length" "I") (by decide +kernel)
  have hk_f21 := hts (.fieldLink RX7 21 "ChanceNetsModel" "text" "[I") (by decide +kernel)
  have hk_f61 := hts (.fieldLink RX7 61 "ChanceNetsModel" "number" "I") (by decide +kernel)
  have hk_f64 := hts (.fieldLink RX7 64 "ChanceNetsModel" "letter" "I") (by decide +kernel)
  have hk_c67 := hts (.constantLong RX7 67 (48)) (by decide +kernel)
  have hk_c69 := hts (.constantLong RX7 69 (57)) (by decide +kernel)
  unfold f_X7_next at hB
  refine lv_aload_n hx hb dX7_next_0 rfl (lv_at hl 0 rfl) ?_
  refine lv_aload_n hx hb dX7_next_1 rfl (lv_at hl 0 rfl) ?_
  refine r_get (v := .int (gI σ 22)) (C := RX7) (T := TX7) (N := 19) hx hb hts hin_X7 hown hK hS (by decide) e_45 rfl 9 (by decide) hk_f55 rfl rfl dX7_next_2 ?_
  refine lv_topi (fun x1 ex1 => ?_)
  have hB := vl_at ex1 hB
  refine r_put (σ' := pI σ 21 x1) (v := .int x1) (C := RX7) (T := TX7) (N := 19) hx hb hts hin_X7 tyX7 tyX7_ok nmX7 hown hK hS (by decide) e_45 rfl 8 (by decide) hk_f58 rfl rfl rfl rfl (Nat.le_of_ble_eq_true rfl) (fun d hd h => eo d hd h) rfl dX7_next_5 (fun H locs hS => ?_)
  obtain ⟨σ2, eσ2⟩ : ∃ t : Sg, t = pI σ 21 x1 := ⟨_, rfl⟩
  rw [← eσ2] at hS
  have hB := vl_at eσ2 hB
  obtain ⟨t9, ht9, hB⟩ := bi_at hB
  refine wl_W (body := fun a => f_X7_next_B8 a) (Hd := fun a : Sg => ∀ (H : Heap) (locs : List Loc) (ls : Array Slot), ST dC dI ad cA s a H locs → lv_has ls 1 [(0, .ref (ad 45))] → W p l e (RM 1 25) s m args below meth c H locs 0 0 Q (F0 m 8 ls [])) (Ex := fun b : Sg => ∀ (H : Heap) (locs : List Loc) (ls : Array Slot), ST dC dI ad cA s b H locs → lv_has ls 1 [(0, .ref (ad 45))] → W p l e (RM 1 25) s m args below meth c H locs 0 0 Q (F0 m 46 ls [])) ?_ FU _ t9 ht9 ?_ H locs ls hS (lv_sub hl [0] rfl)
  · intro a r8 hB hI8 hE8 H locs ls hS hl
    obtain ⟨σ3, rfl⟩ : ∃ y, y = a := ⟨_, rfl⟩
    have hB : f_X7_next_B8 σ3 = some r8 := hB
    unfold f_X7_next_B8 at hB
    have hS : ST dC dI ad cA s σ3 H locs := hS
    have hl : lv_has ls 1 [(0, .ref (ad 45))] := hl
    show W p l e (RM 1 25) s m args below meth c H locs 0 0 Q (F0 m 8 ls [])
    refine lv_aload_n hx hb dX7_next_8 rfl (lv_at hl 0 rfl) ?_
    refine r_get (v := .int (gI σ3 21)) (C := RX7) (T := TX7) (N := 19) hx hb hts hin_X7 hown hK hS (by decide) e_45 rfl 8 (by decide) hk_f58 rfl rfl dX7_next_9 ?_
    refine lv_aload_n hx hb dX7_next_12 rfl (lv_at hl 0 rfl) ?_
    refine r_get (v := .int (gI σ3 19)) (C := RX7) (T := TX7) (N := 19) hx hb hts hin_X7 hown hK hS (by decide) e_45 rfl 5 (by decide) hk_f52 rfl rfl dX7_next_13 ?_
    refine lv_icmp_ge (tgt := 46) hx hb dX7_next_16 (by decide) (fun c4 => ?_) (fun c4 => ?_)
    · have hB := it_t c4 hB
      exact hE8 _ (Option.some.inj hB).symm H locs ls hS (lv_sub hl [0] rfl)
    · have hB := it_f c4 hB
      refine lv_aload_n hx hb dX7_next_19 rfl (lv_at hl 0 rfl) ?_
      refine r_get (v := .ref (ad 48)) (C := RX7) (T := TX7) (N := 19) hx hb hts hin_X7 hown hK hS (by decide) e_45 rfl 4 (by decide) hk_f21 rfl rfl dX7_next_20 ?_
      refine lv_aload_n hx hb dX7_next_23 rfl (lv_at hl 0 rfl) ?_
      refine r_get (v := .int (gI σ3 21)) (C := RX7) (T := TX7) (N := 19) hx hb hts hin_X7 hown hK hS (by decide) e_45 rfl 8 (by decide) hk_f58 rfl rfl dX7_next_24 ?_
      obtain ⟨h5, hB⟩ := gd_at hB
      refine r_iald hx hb hK hS h5 dX7_next_27 ?_
      refine lv_bipush (v := (32 : Int32)) hx hb dX7_next_28 (by decide) ?_
      refine lv_icmp_ne (tgt := 46) hx hb dX7_next_30 (by decide) (fun c6 => ?_) (fun c6 => ?_)
      · have hB := it_f c6 hB
        exact hE8 _ (Option.some.inj hB).symm H locs ls hS (lv_sub hl [0] rfl)
      · have hB := it_t c6 hB
        refine lv_aload_n hx hb dX7_next_33 rfl (lv_at hl 0 rfl) ?_
        refine lv_dup hx hb dX7_next_34 rfl ?_
        refine r_get (v := .int (gI σ3 21)) (C := RX7) (T := TX7) (N := 19) hx hb hts hin_X7 hown hK hS (by decide) e_45 rfl 8 (by decide) hk_f58 rfl rfl dX7_next_35 ?_
        refine lv_iconst (v := (1 : Int32)) hx hb dX7_next_38 (by decide) ?_
        refine lv_iadd hx hb dX7_next_39 ?_
        refine lv_topi (fun x7 ex7 => ?_)
        have hB := vl_at ex7 hB
        refine r_put (σ' := pI σ3 21 x7) (v := .int x7) (C := RX7) (T := TX7) (N := 19) hx hb hts hin_X7 tyX7 tyX7_ok nmX7 hown hK hS (by decide) e_45 rfl 8 (by decide) hk_f58 rfl rfl rfl rfl (Nat.le_of_ble_eq_true rfl) (fun d hd h => eo d hd h) rfl dX7_next_40 (fun H locs hS => ?_)
        obtain ⟨σ8, eσ8⟩ : ∃ t : Sg, t = pI σ3 21 x7 := ⟨_, rfl⟩
        rw [← eσ8] at hS
        have hB := vl_at eσ8 hB
        refine lv_goto (tgt := 8) hx hb dX7_next_43 (by decide) ?_
        exact hI8 _ (Option.some.inj hB).symm H locs ls hS (lv_sub hl [0] rfl)
  · skip
    intro H locs ls hS hl
    have hS : ST dC dI ad cA s t9 H locs := hS
    have hl : lv_has ls 1 [(0, .ref (ad 45))] := hl
    show W p l e (RM 1 25) s m args below meth c H locs 0 0 Q (F0 m 46 ls [])
    refine lv_aload_n hx hb dX7_next_46 rfl (lv_at hl 0 rfl) ?_
    refine lv_aload_n hx hb dX7_next_47 rfl (lv_at hl 0 rfl) ?_
    refine r_get (v := .int (gI t9 21)) (C := RX7) (T := TX7) (N := 19) hx hb hts hin_X7 hown hK hS (by decide) e_45 rfl 8 (by decide) hk_f58 rfl rfl dX7_next_48 ?_
    refine lv_topi (fun x10 ex10 => ?_)
    have hB := vl_at ex10 hB
    refine r_put (σ' := pI t9 22 x10) (v := .int x10) (C := RX7) (T := TX7) (N := 19) hx hb hts hin_X7 tyX7 tyX7_ok nmX7 hown hK hS (by decide) e_45 rfl 9 (by decide) hk_f55 rfl rfl rfl rfl (Nat.le_of_ble_eq_true rfl) (fun d hd h => eo d hd h) rfl dX7_next_51 (fun H locs hS => ?_)
    obtain ⟨σ11, eσ11⟩ : ∃ t : Sg, t = pI t9 22 x10 := ⟨_, rfl⟩
    rw [← eσ11] at hS
    have hB := vl_at eσ11 hB
    refine lv_aload_n hx hb dX7_next_54 rfl (lv_at hl 0 rfl) ?_
    refine lv_bipush (v := (-9 : Int32)) hx hb dX7_next_55 (by decide) ?_
    refine r_put (σ' := pI σ11 24 (-9 : Int32)) (v := .int (-9 : Int32)) (C := RX7) (T := TX7) (N := 19) hx hb hts hin_X7 tyX7 tyX7_ok nmX7 hown hK hS (by decide) e_45 rfl 11 (by decide) hk_f61 rfl rfl rfl rfl (Nat.le_of_ble_eq_true rfl) (fun d hd h => eo d hd h) rfl dX7_next_57 (fun H locs hS => ?_)
    obtain ⟨σ12, eσ12⟩ : ∃ t : Sg, t = pI σ11 24 (-9 : Int32) := ⟨_, rfl⟩
    rw [← eσ12] at hS
    have hB := vl_at eσ12 hB
    refine lv_aload_n hx hb dX7_next_60 rfl (lv_at hl 0 rfl) ?_
    refine lv_iconst (v := (0 : Int32)) hx hb dX7_next_61 (by decide) ?_
    refine r_put (σ' := pI σ12 23 (0 : Int32)) (v := .int (0 : Int32)) (C := RX7) (T := TX7) (N := 19) hx hb hts hin_X7 tyX7 tyX7_ok nmX7 hown hK hS (by decide) e_45 rfl 10 (by decide) hk_f64 rfl rfl rfl rfl (Nat.le_of_ble_eq_true rfl) (fun d hd h => eo d hd h) rfl dX7_next_62 (fun H locs hS => ?_)
    obtain ⟨σ13, eσ13⟩ : ∃ t : Sg, t = pI σ12 23 (0 : Int32) := ⟨_, rfl⟩
    rw [← eσ13] at hS
    have hB := vl_at eσ13 hB
    refine lv_aload_n hx hb dX7_next_65 rfl (lv_at hl 0 rfl) ?_
    refine r_get (v := .int (gI σ13 21)) (C := RX7) (T := TX7) (N := 19) hx hb hts hin_X7 hown hK hS (by decide) e_45 rfl 8 (by decide) hk_f58 rfl rfl dX7_next_66 ?_
    refine lv_aload_n hx hb dX7_next_69 rfl (lv_at hl 0 rfl) ?_
    refine r_get (v := .int (gI σ13 19)) (C := RX7) (T := TX7) (N := 19) hx hb hts hin_X7 hown hK hS (by decide) e_45 rfl 5 (by decide) hk_f52 rfl rfl dX7_next_70 ?_
    refine lv_icmp_ne (tgt := 77) hx hb dX7_next_73 (by decide) (fun c14 => ?_) (fun c14 => ?_)
    · have hB := it_f c14 hB
      refine lv_aload_n hx hb dX7_next_77 rfl (lv_at hl 0 rfl) ?_
      refine lv_dup hx hb dX7_next_78 rfl ?_
      refine r_get (v := .int (gI σ13 22)) (C := RX7) (T := TX7) (N := 19) hx hb hts hin_X7 hown hK hS (by decide) e_45 rfl 9 (by decide) hk_f55 rfl rfl dX7_next_79 ?_
      refine lv_iconst (v := (1 : Int32)) hx hb dX7_next_82 (by decide) ?_
      refine lv_iadd hx hb dX7_next_83 ?_
      refine lv_topi (fun x15 ex15 => ?_)
      have hB := vl_at ex15 hB
      refine r_put (σ' := pI σ13 22 x15) (v := .int x15) (C := RX7) (T := TX7) (N := 19) hx hb hts hin_X7 tyX7 tyX7_ok nmX7 hown hK hS (by decide) e_45 rfl 9 (by decide) hk_f55 rfl rfl rfl rfl (Nat.le_of_ble_eq_true rfl) (fun d hd h => eo d hd h) rfl dX7_next_84 (fun H locs hS => ?_)
      obtain ⟨σ16, eσ16⟩ : ∃ t : Sg, t = pI σ13 22 x15 := ⟨_, rfl⟩
      rw [← eσ16] at hS
      have hB := vl_at eσ16 hB
      refine lv_aload_n hx hb dX7_next_87 rfl (lv_at hl 0 rfl) ?_
      refine lv_aload_n hx hb dX7_next_88 rfl (lv_at hl 0 rfl) ?_
      refine r_get (v := .ref (ad 48)) (C := RX7) (T := TX7) (N := 19) hx hb hts hin_X7 hown hK hS (by decide) e_45 rfl 4 (by decide) hk_f21 rfl rfl dX7_next_89 ?_
      refine lv_aload_n hx hb dX7_next_92 rfl (lv_at hl 0 rfl) ?_
      refine r_get (v := .int (gI σ16 21)) (C := RX7) (T := TX7) (N := 19) hx hb hts hin_X7 hown hK hS (by decide) e_45 rfl 8 (by decide) hk_f58 rfl rfl dX7_next_93 ?_
      obtain ⟨h17, hB⟩ := gd_at hB
      refine r_iald hx hb hK hS h17 dX7_next_96 ?_
      refine lv_topi (fun x18 ex18 => ?_)
      have hB := vl_at ex18 hB
      refine r_put (σ' := pI σ16 23 x18) (v := .int x18) (C := RX7) (T := TX7) (N := 19) hx hb hts hin_X7 tyX7 tyX7_ok nmX7 hown hK hS (by decide) e_45 rfl 10 (by decide) hk_f64 rfl rfl rfl rfl (Nat.le_of_ble_eq_true rfl) (fun d hd h => eo d hd h) rfl dX7_next_97 (fun H locs hS => ?_)
      obtain ⟨σ19, eσ19⟩ : ∃ t : Sg, t = pI σ16 23 x18 := ⟨_, rfl⟩
      rw [← eσ19] at hS
      have hB := vl_at eσ19 hB
      refine lv_aload_n hx hb dX7_next_100 rfl (lv_at hl 0 rfl) ?_
      refine r_get (v := .int (gI σ19 23)) (C := RX7) (T := TX7) (N := 19) hx hb hts hin_X7 hown hK hS (by decide) e_45 rfl 10 (by decide) hk_f64 rfl rfl dX7_next_101 ?_
      refine lv_i2l hx hb dX7_next_104 rfl ?_
      refine lv_ldc2 (v := (48 : Int64)) hx hb hown hk_c67 dX7_next_105 ?_
      refine lv_ldc2 (v := (57 : Int64)) hx hb hown hk_c69 dX7_next_108 ?_
      obtain ⟨t20, ht20, hB⟩ := bi_at hB
      refine r_SiP ⟨hx, hb, hml, hown, hts⟩ (c_X7_in l dC dI ad cA σ19 ((gI σ19 23).toInt64) (48 : Int64) (57 : Int64) t20 ht20) (va_cwS 3 hts gX7_next_X7_in rfl rfl rfl (by decide +kernel) ⟨Nat.le_of_ble_eq_true rfl, Nat.le_of_ble_eq_true rfl⟩) hK hN hS rfl hl.1 rfl (Nat.le_of_ble_eq_true rfl) dX7_next_111 ⟨Nat.le_refl _, Nat.le_refl _⟩ (fun H locs hS => ?_)
      refine lv_if_eq (tgt := 198) hx hb dX7_next_114 (by decide) (fun c21 => ?_) (fun c21 => ?_)
      · have hB := it_t c21 hB
        subst hQ
        exact r_vret hx hb hr hK hS hB hlocks dX7_next_198
      · have hB := it_f c21 hB
        obtain ⟨t29, ht29, hB⟩ := bi_at hB
        refine wl_W (body := fun a => f_X7_next_B117 a) (Hd := fun a : Sg => ∀ (H : Heap) (locs : List Loc) (ls : Array Slot), ST dC dI ad cA s a H locs → lv_has ls 1 [(0, .ref (ad 45))] → W p l e (RM 1 25) s m args below meth c H locs 0 0 Q (F0 m 117 ls [])) (Ex := fun b : Sg => ∀ (H : Heap) (locs : List Loc) (ls : Array Slot), ST dC dI ad cA s b H locs → lv_has ls 1 [(0, .ref (ad 45))] → W p l e (RM 1 25) s m args below meth c H locs 0 0 Q (F0 m 163 ls [])) ?_ FU _ t29 ht29 ?_ H locs ls hS (lv_sub hl [0] rfl)
        · intro a r117 hB hI117 hE117 H locs ls hS hl
          obtain ⟨σ22, rfl⟩ : ∃ y, y = a := ⟨_, rfl⟩
          have hB : f_X7_next_B117 σ22 = some r117 := hB
          unfold f_X7_next_B117 at hB
          have hS : ST dC dI ad cA s σ22 H locs := hS
          have hl : lv_has ls 1 [(0, .ref (ad 45))] := hl
          show W p l e (RM 1 25) s m args below meth c H locs 0 0 Q (F0 m 117 ls [])
          refine lv_aload_n hx hb dX7_next_117 rfl (lv_at hl 0 rfl) ?_
          refine r_get (v := .int (gI σ22 22)) (C := RX7) (T := TX7) (N := 19) hx hb hts hin_X7 hown hK hS (by decide) e_45 rfl 9 (by decide) hk_f55 rfl rfl dX7_next_118 ?_
          refine lv_aload_n hx hb dX7_next_121 rfl (lv_at hl 0 rfl) ?_
          refine r_get (v := .int (gI σ22 19)) (C := RX7) (T := TX7) (N := 19) hx hb hts hin_X7 hown hK hS (by decide) e_45 rfl 5 (by decide) hk_f52 rfl rfl dX7_next_122 ?_
          refine lv_icmp_ge (tgt := 163) hx hb dX7_next_125 (by decide) (fun c23 => ?_) (fun c23 => ?_)
          · have hB := it_t c23 hB
            exact hE117 _ (Option.some.inj hB).symm H locs ls hS (lv_sub hl [0] rfl)
          · have hB := it_f c23 hB
            refine lv_aload_n hx hb dX7_next_128 rfl (lv_at hl 0 rfl) ?_
            refine r_get (v := .ref (ad 48)) (C := RX7) (T := TX7) (N := 19) hx hb hts hin_X7 hown hK hS (by decide) e_45 rfl 4 (by decide) hk_f21 rfl rfl dX7_next_129 ?_
            refine lv_aload_n hx hb dX7_next_132 rfl (lv_at hl 0 rfl) ?_
            refine r_get (v := .int (gI σ22 22)) (C := RX7) (T := TX7) (N := 19) hx hb hts hin_X7 hown hK hS (by decide) e_45 rfl 9 (by decide) hk_f55 rfl rfl dX7_next_133 ?_
            obtain ⟨h24, hB⟩ := gd_at hB
            refine r_iald hx hb hK hS h24 dX7_next_136 ?_
            refine lv_i2l hx hb dX7_next_137 rfl ?_
            refine lv_ldc2 (v := (48 : Int64)) hx hb hown hk_c67 dX7_next_138 ?_
            refine lv_ldc2 (v := (57 : Int64)) hx hb hown hk_c69 dX7_next_141 ?_
            obtain ⟨t25, ht25, hB⟩ := bi_at hB
            refine r_SiP ⟨hx, hb, hml, hown, hts⟩ (c_X7_in l dC dI ad cA σ22 ((gA σ22 48 (gI σ22 22).toNatClampNeg).toInt64) (48 : Int64) (57 : Int64) t25 ht25) (va_cwS 3 hts gX7_next_X7_in rfl rfl rfl (by decide +kernel) ⟨Nat.le_of_ble_eq_true rfl, Nat.le_of_ble_eq_true rfl⟩) hK hN hS rfl hl.1 rfl (Nat.le_of_ble_eq_true rfl) dX7_next_144 ⟨Nat.le_refl _, Nat.le_refl _⟩ (fun H locs hS => ?_)
            refine lv_if_eq (tgt := 163) hx hb dX7_next_147 (by decide) (fun c26 => ?_) (fun c26 => ?_)
            · have hB := it_t c26 hB
              exact hE117 _ (Option.some.inj hB).symm H locs ls hS (lv_sub hl [0] rfl)
            · have hB := it_f c26 hB
              refine lv_aload_n hx hb dX7_next_150 rfl (lv_at hl 0 rfl) ?_
              refine lv_dup hx hb dX7_next_151 rfl ?_
              refine r_get (v := .int (gI σ22 22)) (C := RX7) (T := TX7) (N := 19) hx hb hts hin_X7 hown hK hS (by decide) e_45 rfl 9 (by decide) hk_f55 rfl rfl dX7_next_152 ?_
              refine lv_iconst (v := (1 : Int32)) hx hb dX7_next_155 (by decide) ?_
              refine lv_iadd hx hb dX7_next_156 ?_
              refine lv_topi (fun x27 ex27 => ?_)
              have hB := vl_at ex27 hB
              refine r_put (σ' := pI σ22 22 x27) (v := .int x27) (C := RX7) (T := TX7) (N := 19) hx hb hts hin_X7 tyX7 tyX7_ok nmX7 hown hK hS (by decide) e_45 rfl 9 (by decide) hk_f55 rfl rfl rfl rfl (Nat.le_of_ble_eq_true rfl) (fun d hd h => eo d hd h) rfl dX7_next_157 (fun H locs hS => ?_)
              obtain ⟨σ28, eσ28⟩ : ∃ t : Sg, t = pI σ22 22 x27 := ⟨_, rfl⟩
              rw [← eσ28] at hS
              have hB := vl_at eσ28 hB
              refine lv_goto (tgt := 117) hx hb dX7_next_160 (by decide) ?_
              exact hI117 _ (Option.some.inj hB).symm H locs ls hS (lv_sub hl [0] rfl)
        · skip
          intro H locs ls hS hl
          have hS : ST dC dI ad cA s t29 H locs := hS
          have hl : lv_has ls 1 [(0, .ref (ad 45))] := hl
          show W p l e (RM 1 25) s m args below meth c H locs 0 0 Q (F0 m 163 ls [])
          refine lv_aload_n hx hb dX7_next_163 rfl (lv_at hl 0 rfl) ?_
          refine lv_aload_n hx hb dX7_next_164 rfl (lv_at hl 0 rfl) ?_
          refine r_get (v := .int (gI t29 22)) (C := RX7) (T := TX7) (N := 19) hx hb hts hin_X7 hown hK hS (by decide) e_45 rfl 9 (by decide) hk_f55 rfl rfl dX7_next_165 ?_
          refine lv_aload_n hx hb dX7_next_168 rfl (lv_at hl 0 rfl) ?_
          refine r_get (v := .int (gI t29 21)) (C := RX7) (T := TX7) (N := 19) hx hb hts hin_X7 hown hK hS (by decide) e_45 rfl 8 (by decide) hk_f58 rfl rfl dX7_next_169 ?_
          refine lv_isub hx hb dX7_next_172 ?_
          refine lv_iconst (v := (1 : Int32)) hx hb dX7_next_173 (by decide) ?_
          have hJ189 : ∀ (x30 : Int32) (H : Heap) (locs : List Loc) (ls : Array Slot), f_X7_next_J189 t29 x30 = some z → ST dC dI ad cA s t29 H locs → lv_has ls 1 [(0, .ref (ad 45))] → W p l e (RM 1 25) s m args below meth c H locs 0 0 Q (F0 m 189 ls [.int x30, .ref (ad 45)]) := by
            intro x30 H locs ls hB hS hl
            unfold f_X7_next_J189 at hB
            refine r_put (σ' := pI t29 24 x30) (v := .int x30) (C := RX7) (T := TX7) (N := 19) hx hb hts hin_X7 tyX7 tyX7_ok nmX7 hown hK hS (by decide) e_45 rfl 11 (by decide) hk_f61 rfl rfl rfl rfl (Nat.le_of_ble_eq_true rfl) (fun d hd h => eo d hd h) rfl dX7_next_189 (fun H locs hS => ?_)
            obtain ⟨σ31, eσ31⟩ : ∃ t : Sg, t = pI t29 24 x30 := ⟨_, rfl⟩
            rw [← eσ31] at hS
            have hB := vl_at eσ31 hB
            refine lv_aload_n hx hb dX7_next_192 rfl (lv_at hl 0 rfl) ?_
            refine lv_bipush (v := (48 : Int32)) hx hb dX7_next_193 (by decide) ?_
            refine r_put (σ' := pI σ31 23 (48 : Int32)) (v := .int (48 : Int32)) (C := RX7) (T := TX7) (N := 19) hx hb hts hin_X7 tyX7 tyX7_ok nmX7 hown hK hS (by decide) e_45 rfl 10 (by decide) hk_f64 rfl rfl rfl rfl (Nat.le_of_ble_eq_true rfl) (fun d hd h => eo d hd h) rfl dX7_next_195 (fun H locs hS => ?_)
            obtain ⟨σ32, eσ32⟩ : ∃ t : Sg, t = pI σ31 23 (48 : Int32) := ⟨_, rfl⟩
            rw [← eσ32] at hS
            have hB := vl_at eσ32 hB
            subst hQ
            exact r_vret hx hb hr hK hS hB hlocks dX7_next_198
          refine lv_icmp_ne (tgt := 187) hx hb dX7_next_174 (by decide) (fun c33 => ?_) (fun c33 => ?_)
          · have hB := it_f c33 hB
            refine lv_bipush (v := (-9 : Int32)) hx hb dX7_next_187 (by decide) ?_
            exact hJ189 (-9 : Int32) H locs ls hB hS (lv_sub hl [0] rfl)
          · have hB := it_t c33 hB
            refine lv_aload_n hx hb dX7_next_177 rfl (lv_at hl 0 rfl) ?_
            refine r_get (v := .int (gI t29 23)) (C := RX7) (T := TX7) (N := 19) hx hb hts hin_X7 hown hK hS (by decide) e_45 rfl 10 (by decide) hk_f64 rfl rfl dX7_next_178 ?_
            refine lv_bipush (v := (48 : Int32)) hx hb dX7_next_181 (by decide) ?_
            refine lv_isub hx hb dX7_next_183 ?_
            refine lv_goto (tgt := 189) hx hb dX7_next_184 (by decide) ?_
            exact hJ189 ((gI t29 23) - (48 : Int32)) H locs ls hB hS (lv_sub hl [0] rfl)
    · have hB := it_t c14 hB
      subst hQ
      exact r_vret hx hb hr hK hS hB hlocks dX7_next_76
