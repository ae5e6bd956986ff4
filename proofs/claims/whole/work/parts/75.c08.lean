set_option maxHeartbeats 4000000 in
set_option maxRecDepth 100000 in
theorem c_X7_widens (l : Launch) (dC : Nat → ClassId) (dI : Nat → Nat → Nat) (ad : Nat → Nat) (cA : Nat → ClassId) (σ : Sg) (a1 : Int32) (a2 : Int32) (z : Int32 × Sg) (hB : f_X7_widens σ a1 a2 = some z) : Ki l dC dI ad cA yX7_widens wsX7_widens 2 46 [.ref (ad 45), .int a1, .int a2] σ z := by
  refine mk_i (cc := cX7_widens) (maxL := 4) (ret := (some .int)) (by decide) rfl (Nat.le_of_ble_eq_true rfl) ?_
  intro p e s m args below meth c Q H locs ls ⟨hx, hb, hr, hml, hown, hts, hlocks, hK, hN⟩ hQ hS hl
  have hown : s.vm.findClass RX7 = some m.cls := hown
  have hl : lv_has ls 4 [(0, .ref (ad 45)), (1, .int a1), (2, .int a2)] := hl
  have hk_c123 := hts (.constantLong RX7 123 (9)) (by decide +kernel)
  have hk_f7 := hts (.fieldLink RX7 7 "ChanceNetsModel" "rows" "[I") (by decide +kernel)
  have hin_X7 : ∀ w ∈ u_ws RX7 TX7 19, w ∈ wsX7_widens := by decide +kernel
  unfold f_X7_widens at hB
  refine lv_aload_n hx hb dX7_widens_0 rfl (lv_at hl 0 rfl) ?_
  refine lv_iload_n hx hb dX7_widens_1 rfl (lv_at hl 1 rfl) ?_
  obtain ⟨t1, ht1, hB⟩ := bi_at hB
  refine r_ViP ⟨hx, hb, hml, hown, hts⟩ (c_X7_isLine l dC dI ad cA σ a1 t1 ht1) (cwV 1 hts gX7_widens_X7_isLine rfl rfl rfl (by decide +kernel) ⟨Nat.le_of_ble_eq_true rfl, Nat.le_of_ble_eq_true rfl⟩) hK hN hS (by decide) e_45 rfl rfl hl.1 rfl (Nat.le_of_ble_eq_true rfl) dX7_widens_2 ⟨Nat.le_refl _, Nat.le_refl _⟩ (fun H locs hS => ?_)
  refine lv_if_eq (tgt := 20) hx hb dX7_widens_5 (by decide) (fun c2 => ?_) (fun c2 => ?_)
  · have hB := it_t c2 hB
    refine lv_iconst (v := (-1 : Int32)) hx hb dX7_widens_20 (by decide) ?_
    subst hQ
    exact r_iret hx hb hr hK hS hB hlocks dX7_widens_21
  · have hB := it_f c2 hB
    refine lv_iload_n hx hb dX7_widens_8 rfl (lv_at hl 2 rfl) ?_
    refine lv_i2l hx hb dX7_widens_9 rfl ?_
    refine lv_lconst (v := (1 : Int64)) hx hb dX7_widens_10 (by decide) ?_
    refine lv_ldc2 (v := (9 : Int64)) hx hb hown hk_c123 dX7_widens_11 ?_
    obtain ⟨t3, ht3, hB⟩ := bi_at hB
    refine r_SiP ⟨hx, hb, hml, hown, hts⟩ (c_X7_in l dC dI ad cA σ a2.toInt64 (1 : Int64) (9 : Int64) t3 ht3) (va_cwS 3 hts gX7_widens_X7_in rfl rfl rfl (by decide +kernel) ⟨Nat.le_of_ble_eq_true rfl, Nat.le_of_ble_eq_true rfl⟩) hK hN hS rfl hl.1 rfl (Nat.le_of_ble_eq_true rfl) dX7_widens_14 ⟨Nat.le_refl _, Nat.le_refl _⟩ (fun H locs hS => ?_)
    refine lv_if_ne (tgt := 22) hx hb dX7_widens_17 (by decide) (fun c4 => ?_) (fun c4 => ?_)
    · have hB := it_f c4 hB
      refine lv_aload_n hx hb dX7_widens_22 rfl (lv_at hl 0 rfl) ?_
      refine r_get (v := .ref (ad 46)) (C := RX7) (T := TX7) (N := 19) hx hb hts hin_X7 hown hK hS (by decide) e_45 rfl 0 (by decide) hk_f7 rfl rfl dX7_widens_23 ?_
      refine lv_bipush (v := (21 : Int32)) hx hb dX7_widens_26 (by decide) ?_
      refine lv_iload_n hx hb dX7_widens_28 rfl (lv_at hl 1 rfl) ?_
      refine lv_iadd hx hb dX7_widens_29 ?_
      obtain ⟨h5, hB⟩ := gd_at hB
      refine r_iald hx hb hK hS h5 dX7_widens_30 ?_
      refine lv_topi (fun x6 ex6 => ?_)
      have hB := vl_at ex6 hB
      refine lv_istore_n (lv' := [(3, .int x6), (0, .ref (ad 45)), (1, .int a1), (2, .int a2)]) hx hb dX7_widens_31 rfl hl (by decide) rfl (fun ls hl => ?_)
      refine lv_iload_n hx hb dX7_widens_32 rfl (lv_at hl 0 rfl) ?_
      refine lv_iload_n hx hb dX7_widens_33 rfl (lv_at hl 3 rfl) ?_
      refine lv_icmp_ne (tgt := 40) hx hb dX7_widens_34 (by decide) (fun c7 => ?_) (fun c7 => ?_)
      · have hB := it_f c7 hB
        refine lv_aload_n hx hb dX7_widens_40 rfl (lv_at hl 1 rfl) ?_
        obtain ⟨t8, ht8, hB⟩ := bi_at hB
        refine r_Vv ⟨hx, hb, hml, hown, hts⟩ (c_X7_notes l dC dI ad cA σ t8 ht8) (cwV 0 hts gX7_widens_X7_notes rfl rfl rfl (by decide +kernel) ⟨Nat.le_of_ble_eq_true rfl, Nat.le_of_ble_eq_true rfl⟩) hK hN hS (by decide) e_45 rfl rfl hl.1 rfl (Nat.le_of_ble_eq_true rfl) dX7_widens_41 ⟨Nat.le_refl _, Nat.le_refl _⟩ (fun H locs hS => ?_)
        refine lv_aload_n hx hb dX7_widens_44 rfl (lv_at hl 1 rfl) ?_
        refine r_get (v := .ref (ad 46)) (C := RX7) (T := TX7) (N := 19) hx hb hts hin_X7 hown hK hS (by decide) e_45 rfl 0 (by decide) hk_f7 rfl rfl dX7_widens_45 ?_
        refine lv_bipush (v := (21 : Int32)) hx hb dX7_widens_48 (by decide) ?_
        refine lv_iload_n hx hb dX7_widens_50 rfl (lv_at hl 2 rfl) ?_
        refine lv_iadd hx hb dX7_widens_51 ?_
        refine lv_iload_n hx hb dX7_widens_52 rfl (lv_at hl 3 rfl) ?_
        obtain ⟨h9, hB⟩ := gd_at hB
        refine r_iast hx hb hK hS h9 dX7_widens_53 (fun H locs hS => ?_)
        obtain ⟨σ10, eσ10⟩ : ∃ t : Sg, t = pA t8 46 ((21 : Int32) + a1).toNatClampNeg a2 := ⟨_, rfl⟩
        rw [← eσ10] at hS
        have hB := vl_at eσ10 hB
        refine lv_iload_n hx hb dX7_widens_54 rfl (lv_at hl 0 rfl) ?_
        subst hQ
        exact r_iret hx hb hr hK hS hB hlocks dX7_widens_55
      · have hB := it_t c7 hB
        refine lv_bipush (v := (-2 : Int32)) hx hb dX7_widens_37 (by decide) ?_
        subst hQ
        exact r_iret hx hb hr hK hS hB hlocks dX7_widens_39
    · have hB := it_t c4 hB
      refine lv_iconst (v := (-1 : Int32)) hx hb dX7_widens_20 (by decide) ?_
      subst hQ
      exact r_iret hx hb hr hK hS hB hlocks dX7_widens_21
set_option maxHeartbeats 4000000 in
set_option maxRecDepth 100000 in
theorem c_X7_cuts (l : Launch) (dC : Nat → ClassId) (dI : Nat → Nat → Nat) (ad : Nat → Nat) (cA : Nat → ClassId) (σ : Sg) (a1 : Int32) (z : Int32 × Sg) (hB : f_X7_cuts σ a1 = some z) : Ki l dC dI ad cA yX7_cuts wsX7_cuts 2 46 [.ref (ad 45), .int a1] σ z := by
  refine mk_i (cc := cX7_cuts) (maxL := 3) (ret := (some .int)) (by decide) rfl (Nat.le_of_ble_eq_true rfl) ?_
  intro p e s m args below meth c Q H locs ls ⟨hx, hb, hr, hml, hown, hts, hlocks, hK, hN⟩ hQ hS hl
  have hown : s.vm.findClass RX7 = some m.cls := hown
  have hl : lv_has ls 3 [(0, .ref (ad 45)), (1, .int a1)] := hl
  have hk_f7 := hts (.fieldLink RX7 7 "ChanceNetsModel" "rows" "[I") (by decide +kernel)
  have hin_X7 : ∀ w ∈ u_ws RX7 TX7 19, w ∈ wsX7_cuts := by decide +kernel
  unfold f_X7_cuts at hB
  refine lv_aload_n hx hb dX7_cuts_0 rfl (lv_at hl 0 rfl) ?_
  refine lv_iload_n hx hb dX7_cuts_1 rfl (lv_at hl 1 rfl) ?_
  obtain ⟨t1, ht1, hB⟩ := bi_at hB
  refine r_ViP ⟨hx, hb, hml, hown, hts⟩ (c_X7_isLine l dC dI ad cA σ a1 t1 ht1) (cwV 1 hts gX7_cuts_X7_isLine rfl rfl rfl (by decide +kernel) ⟨Nat.le_of_ble_eq_true rfl, Nat.le_of_ble_eq_true rfl⟩) hK hN hS (by decide) e_45 rfl rfl hl.1 rfl (Nat.le_of_ble_eq_true rfl) dX7_cuts_2 ⟨Nat.le_refl _, Nat.le_refl _⟩ (fun H locs hS => ?_)
  refine lv_if_ne (tgt := 10) hx hb dX7_cuts_5 (by decide) (fun c2 => ?_) (fun c2 => ?_)
  · have hB := it_f c2 hB
    refine lv_aload_n hx hb dX7_cuts_10 rfl (lv_at hl 0 rfl) ?_
    obtain ⟨t3, ht3, hB⟩ := bi_at hB
    refine r_Vv ⟨hx, hb, hml, hown, hts⟩ (c_X7_notes l dC dI ad cA σ t3 ht3) (cwV 0 hts gX7_cuts_X7_notes rfl rfl rfl (by decide +kernel) ⟨Nat.le_of_ble_eq_true rfl, Nat.le_of_ble_eq_true rfl⟩) hK hN hS (by decide) e_45 rfl rfl hl.1 rfl (Nat.le_of_ble_eq_true rfl) dX7_cuts_11 ⟨Nat.le_refl _, Nat.le_refl _⟩ (fun H locs hS => ?_)
    refine lv_aload_n hx hb dX7_cuts_14 rfl (lv_at hl 0 rfl) ?_
    refine r_get (v := .ref (ad 46)) (C := RX7) (T := TX7) (N := 19) hx hb hts hin_X7 hown hK hS (by decide) e_45 rfl 0 (by decide) hk_f7 rfl rfl dX7_cuts_15 ?_
    refine lv_iconst (v := (0 : Int32)) hx hb dX7_cuts_18 (by decide) ?_
    refine lv_dup2_11 hx hb dX7_cuts_19 rfl rfl ?_
    obtain ⟨h4, hB⟩ := gd_at hB
    refine r_iald hx hb hK hS h4 dX7_cuts_20 ?_
    refine lv_iconst (v := (1 : Int32)) hx hb dX7_cuts_21 (by decide) ?_
    refine lv_isub hx hb dX7_cuts_22 ?_
    refine lv_topi (fun x5 ex5 => ?_)
    have hB := vl_at ex5 hB
    obtain ⟨h6, hB⟩ := gd_at hB
    refine r_iast hx hb hK hS h6 dX7_cuts_23 (fun H locs hS => ?_)
    obtain ⟨σ7, eσ7⟩ : ∃ t : Sg, t = pA t3 46 (0 : Int32).toNatClampNeg x5 := ⟨_, rfl⟩
    rw [← eσ7] at hS
    have hB := vl_at eσ7 hB
    refine lv_iload_n hx hb dX7_cuts_24 rfl (lv_at hl 1 rfl) ?_
    refine lv_istore_n (lv' := [(2, .int a1), (0, .ref (ad 45)), (1, .int a1)]) hx hb dX7_cuts_25 rfl hl (by decide) rfl (fun ls hl => ?_)
    obtain ⟨t25, ht25, hB⟩ := bi_at hB
    refine wl_W (body := fun a => f_X7_cuts_B26 a.1 a.2) (Hd := fun a : Int32 × Sg => ∀ (H : Heap) (locs : List Loc) (ls : Array Slot), ST dC dI ad cA s a.2 H locs → lv_has ls 3 [(0, .ref (ad 45)), (2, .int a.1)] → W p l e (RM 2 46) s m args below meth c H locs 0 0 Q (F0 m 26 ls [])) (Ex := fun b : Sg => ∀ (H : Heap) (locs : List Loc) (ls : Array Slot), ST dC dI ad cA s b H locs → lv_has ls 3 [(0, .ref (ad 45))] → W p l e (RM 2 46) s m args below meth c H locs 0 0 Q (F0 m 98 ls [])) ?_ FU _ t25 ht25 ?_ H locs ls hS (lv_sub hl [1, 0] rfl)
    · intro a r26 hB hI26 hE26 H locs ls hS hl
      obtain ⟨x8, σ9⟩ := a
      have hB : f_X7_cuts_B26 x8 σ9 = some r26 := hB
      unfold f_X7_cuts_B26 at hB
      have hS : ST dC dI ad cA s σ9 H locs := hS
      have hl : lv_has ls 3 [(0, .ref (ad 45)), (2, .int x8)] := hl
      show W p l e (RM 2 46) s m args below meth c H locs 0 0 Q (F0 m 26 ls [])
      refine lv_iload_n hx hb dX7_cuts_26 rfl (lv_at hl 1 rfl) ?_
      refine lv_aload_n hx hb dX7_cuts_27 rfl (lv_at hl 0 rfl) ?_
      obtain ⟨t10, ht10, hB⟩ := bi_at hB
      refine r_ViP ⟨hx, hb, hml, hown, hts⟩ (c_X7_lines l dC dI ad cA σ9 t10 ht10) (cwV 0 hts gX7_cuts_X7_lines rfl rfl rfl (by decide +kernel) ⟨Nat.le_of_ble_eq_true rfl, Nat.le_of_ble_eq_true rfl⟩) hK hN hS (by decide) e_45 rfl rfl hl.1 rfl (Nat.le_of_ble_eq_true rfl) dX7_cuts_28 ⟨Nat.le_refl _, Nat.le_refl _⟩ (fun H locs hS => ?_)
      refine lv_icmp_ge (tgt := 98) hx hb dX7_cuts_31 (by decide) (fun c11 => ?_) (fun c11 => ?_)
      · have hB := it_t c11 hB
        exact hE26 _ (Option.some.inj hB).symm H locs ls hS (lv_sub hl [0] rfl)
      · have hB := it_f c11 hB
        refine lv_aload_n hx hb dX7_cuts_34 rfl (lv_at hl 0 rfl) ?_
        refine r_get (v := .ref (ad 46)) (C := RX7) (T := TX7) (N := 19) hx hb hts hin_X7 hown hK hS (by decide) e_45 rfl 0 (by decide) hk_f7 rfl rfl dX7_cuts_35 ?_
        refine lv_iconst (v := (1 : Int32)) hx hb dX7_cuts_38 (by decide) ?_
        refine lv_iload_n hx hb dX7_cuts_39 rfl (lv_at hl 1 rfl) ?_
        refine lv_iadd hx hb dX7_cuts_40 ?_
        refine lv_aload_n hx hb dX7_cuts_41 rfl (lv_at hl 0 rfl) ?_
        refine r_get (v := .ref (ad 46)) (C := RX7) (T := TX7) (N := 19) hx hb hts hin_X7 hown hK hS (by decide) e_45 rfl 0 (by decide) hk_f7 rfl rfl dX7_cuts_42 ?_
        refine lv_iconst (v := (1 : Int32)) hx hb dX7_cuts_45 (by decide) ?_
        refine lv_iload_n hx hb dX7_cuts_46 rfl (lv_at hl 1 rfl) ?_
        refine lv_iadd hx hb dX7_cuts_47 ?_
        refine lv_iconst (v := (1 : Int32)) hx hb dX7_cuts_48 (by decide) ?_
        refine lv_iadd hx hb dX7_cuts_49 ?_
        obtain ⟨h12, hB⟩ := gd_at hB
        refine r_iald hx hb hK hS h12 dX7_cuts_50 ?_
        refine lv_topi (fun x13 ex13 => ?_)
        have hB := vl_at ex13 hB
        obtain ⟨h14, hB⟩ := gd_at hB
        refine r_iast hx hb hK hS h14 dX7_cuts_51 (fun H locs hS => ?_)
        obtain ⟨σ15, eσ15⟩ : ∃ t : Sg, t = pA σ9 46 ((1 : Int32) + x8).toNatClampNeg x13 := ⟨_, rfl⟩
        rw [← eσ15] at hS
        have hB := vl_at eσ15 hB
        refine lv_aload_n hx hb dX7_cuts_52 rfl (lv_at hl 0 rfl) ?_
        refine r_get (v := .ref (ad 46)) (C := RX7) (T := TX7) (N := 19) hx hb hts hin_X7 hown hK hS (by decide) e_45 rfl 0 (by decide) hk_f7 rfl rfl dX7_cuts_53 ?_
        refine lv_bipush (v := (11 : Int32)) hx hb dX7_cuts_56 (by decide) ?_
        refine lv_iload_n hx hb dX7_cuts_58 rfl (lv_at hl 1 rfl) ?_
        refine lv_iadd hx hb dX7_cuts_59 ?_
        refine lv_aload_n hx hb dX7_cuts_60 rfl (lv_at hl 0 rfl) ?_
        refine r_get (v := .ref (ad 46)) (C := RX7) (T := TX7) (N := 19) hx hb hts hin_X7 hown hK hS (by decide) e_45 rfl 0 (by decide) hk_f7 rfl rfl dX7_cuts_61 ?_
        refine lv_bipush (v := (11 : Int32)) hx hb dX7_cuts_64 (by decide) ?_
        refine lv_iload_n hx hb dX7_cuts_66 rfl (lv_at hl 1 rfl) ?_
        refine lv_iadd hx hb dX7_cuts_67 ?_
        refine lv_iconst (v := (1 : Int32)) hx hb dX7_cuts_68 (by decide) ?_
        refine lv_iadd hx hb dX7_cuts_69 ?_
        obtain ⟨h16, hB⟩ := gd_at hB
        refine r_iald hx hb hK hS h16 dX7_cuts_70 ?_
        refine lv_topi (fun x17 ex17 => ?_)
        have hB := vl_at ex17 hB
        obtain ⟨h18, hB⟩ := gd_at hB
        refine r_iast hx hb hK hS h18 dX7_cuts_71 (fun H locs hS => ?_)
        obtain ⟨σ19, eσ19⟩ : ∃ t : Sg, t = pA σ15 46 ((11 : Int32) + x8).toNatClampNeg x17 := ⟨_, rfl⟩
        rw [← eσ19] at hS
        have hB := vl_at eσ19 hB
        refine lv_aload_n hx hb dX7_cuts_72 rfl (lv_at hl 0 rfl) ?_
        refine r_get (v := .ref (ad 46)) (C := RX7) (T := TX7) (N := 19) hx hb hts hin_X7 hown hK hS (by decide) e_45 rfl 0 (by decide) hk_f7 rfl rfl dX7_cuts_73 ?_
        refine lv_bipush (v := (21 : Int32)) hx hb dX7_cuts_76 (by decide) ?_
        refine lv_iload_n hx hb dX7_cuts_78 rfl (lv_at hl 1 rfl) ?_
        refine lv_iadd hx hb dX7_cuts_79 ?_
        refine lv_aload_n hx hb dX7_cuts_80 rfl (lv_at hl 0 rfl) ?_
        refine r_get (v := .ref (ad 46)) (C := RX7) (T := TX7) (N := 19) hx hb hts hin_X7 hown hK hS (by decide) e_45 rfl 0 (by decide) hk_f7 rfl rfl dX7_cuts_81 ?_
        refine lv_bipush (v := (21 : Int32)) hx hb dX7_cuts_84 (by decide) ?_
        refine lv_iload_n hx hb dX7_cuts_86 rfl (lv_at hl 1 rfl) ?_
        refine lv_iadd hx hb dX7_cuts_87 ?_
        refine lv_iconst (v := (1 : Int32)) hx hb dX7_cuts_88 (by decide) ?_
        refine lv_iadd hx hb dX7_cuts_89 ?_
        obtain ⟨h20, hB⟩ := gd_at hB
        refine r_iald hx hb hK hS h20 dX7_cuts_90 ?_
        refine lv_topi (fun x21 ex21 => ?_)
        have hB := vl_at ex21 hB
        obtain ⟨h22, hB⟩ := gd_at hB
        refine r_iast hx hb hK hS h22 dX7_cuts_91 (fun H locs hS => ?_)
        obtain ⟨σ23, eσ23⟩ : ∃ t : Sg, t = pA σ19 46 ((21 : Int32) + x8).toNatClampNeg x21 := ⟨_, rfl⟩
        rw [← eσ23] at hS
        have hB := vl_at eσ23 hB
        obtain ⟨x24, ex24⟩ : ∃ y : Int32, y = x8 + (1 : Int32) := ⟨_, rfl⟩
        have hB := vl_at ex24 hB
        refine lv_iinc (v := x24) (lv' := [(2, .int x24), (0, .ref (ad 45))]) hx hb dX7_cuts_92 hl (k := 1) rfl (by rw [ex24]; rfl) (by decide) rfl (fun ls hl => ?_)
        refine lv_goto (tgt := 26) hx hb dX7_cuts_95 (by decide) ?_
        exact hI26 _ (Option.some.inj hB).symm H locs ls hS (lv_sub hl [1, 0] rfl)
    · skip
      intro H locs ls hS hl
      have hS : ST dC dI ad cA s t25 H locs := hS
      have hl : lv_has ls 3 [(0, .ref (ad 45))] := hl
      show W p l e (RM 2 46) s m args below meth c H locs 0 0 Q (F0 m 98 ls [])
      refine lv_aload_n hx hb dX7_cuts_98 rfl (lv_at hl 0 rfl) ?_
      obtain ⟨t26, ht26, hB⟩ := bi_at hB
      refine r_ViP ⟨hx, hb, hml, hown, hts⟩ (c_X7_lines l dC dI ad cA t25 t26 ht26) (cwV 0 hts gX7_cuts_X7_lines rfl rfl rfl (by decide +kernel) ⟨Nat.le_of_ble_eq_true rfl, Nat.le_of_ble_eq_true rfl⟩) hK hN hS (by decide) e_45 rfl rfl hl.1 rfl (Nat.le_of_ble_eq_true rfl) dX7_cuts_99 ⟨Nat.le_refl _, Nat.le_refl _⟩ (fun H locs hS => ?_)
      subst hQ
      exact r_iret hx hb hr hK hS hB hlocks dX7_cuts_102
  · have hB := it_t c2 hB
    refine lv_iconst (v := (-1 : Int32)) hx hb dX7_cuts_8 (by decide) ?_
    subst hQ
    exact r_iret hx hb hr hK hS hB hlocks dX7_cuts_9
set_option maxHeartbeats 4000000 in
set_option maxRecDepth 100000 in
theorem c_X7_undo (l : Launch) (dC : Nat → ClassId) (dI : Nat → Nat → Nat) (ad : Nat → Nat) (cA : Nat → ClassId) (σ : Sg)  (z : Int32 × Sg) (hB : f_X7_undo σ = some z) : Ki l dC dI ad cA yX7_undo wsX7_undo 1 23 [.ref (ad 45)] σ z := by
  refine mk_i (cc := cX7_undo) (maxL := 1) (ret := (some .int)) (by decide) rfl (Nat.le_of_ble_eq_true rfl) ?_
  intro p e s m args below meth c Q H locs ls ⟨hx, hb, hr, hml, hown, hts, hlocks, hK, hN⟩ hQ hS hl
  have hown : s.vm.findClass RX7 = some m.cls := hown
  have hl : lv_has ls 1 [(0, .ref (ad 45))] := hl
  have hk_f101 := hts (.fieldLink RX7 101 "ChanceNetsModel" "undos" "I") (by decide +kernel)
  have hin_X7 : ∀ w ∈ u_ws RX7 TX7 19, w ∈ wsX7_undo := by decide +kernel
  unfold f_X7_undo at hB
  refine lv_aload_n hx hb dX7_undo_0 rfl (lv_at hl 0 rfl) ?_
  refine r_get (v := .int (gI σ 18)) (C := RX7) (T := TX7) (N := 19) hx hb hts hin_X7 hown hK hS (by decide) e_45 rfl 2 (by decide) hk_f101 rfl rfl dX7_undo_1 ?_
  refine lv_if_ne (tgt := 10) hx hb dX7_undo_4 (by decide) (fun c1 => ?_) (fun c1 => ?_)
  · have hB := it_f c1 hB
    refine lv_aload_n hx hb dX7_undo_10 rfl (lv_at hl 0 rfl) ?_
    refine lv_dup hx hb dX7_undo_11 rfl ?_
    refine r_get (v := .int (gI σ 18)) (C := RX7) (T := TX7) (N := 19) hx hb hts hin_X7 hown hK hS (by decide) e_45 rfl 2 (by decide) hk_f101 rfl rfl dX7_undo_12 ?_
    refine lv_iconst (v := (1 : Int32)) hx hb dX7_undo_15 (by decide) ?_
    refine lv_isub hx hb dX7_undo_16 ?_
    refine lv_topi (fun x2 ex2 => ?_)
    have hB := vl_at ex2 hB
    refine r_put (σ' := pI σ 18 x2) (v := .int x2) (C := RX7) (T := TX7) (N := 19) hx hb hts hin_X7 tyX7 tyX7_ok nmX7 hown hK hS (by decide) e_45 rfl 2 (by decide) hk_f101 rfl rfl rfl rfl (Nat.le_of_ble_eq_true rfl) (fun d hd h => eo d hd h) rfl dX7_undo_17 (fun H locs hS => ?_)
    obtain ⟨σ3, eσ3⟩ : ∃ t : Sg, t = pI σ 18 x2 := ⟨_, rfl⟩
    rw [← eσ3] at hS
    have hB := vl_at eσ3 hB
    refine lv_aload_n hx hb dX7_undo_20 rfl (lv_at hl 0 rfl) ?_
    refine lv_bipush (v := (31 : Int32)) hx hb dX7_undo_21 (by decide) ?_
    refine lv_bipush (v := (31 : Int32)) hx hb dX7_undo_23 (by decide) ?_
    refine lv_aload_n hx hb dX7_undo_25 rfl (lv_at hl 0 rfl) ?_
    refine r_get (v := .int (gI σ3 18)) (C := RX7) (T := TX7) (N := 19) hx hb hts hin_X7 hown hK hS (by decide) e_45 rfl 2 (by decide) hk_f101 rfl rfl dX7_undo_26 ?_
    refine lv_imul hx hb dX7_undo_29 ?_
    refine lv_iadd hx hb dX7_undo_30 ?_
    refine lv_iconst (v := (0 : Int32)) hx hb dX7_undo_31 (by decide) ?_
    obtain ⟨t4, ht4, hB⟩ := bi_at hB
    refine r_Vv ⟨hx, hb, hml, hown, hts⟩ (c_X7_copyRow l dC dI ad cA σ3 ((31 : Int32) + ((31 : Int32) * (gI σ3 18))) (0 : Int32) t4 ht4) (cwV 2 hts gX7_undo_X7_copyRow rfl rfl rfl (by decide +kernel) ⟨Nat.le_of_ble_eq_true rfl, Nat.le_of_ble_eq_true rfl⟩) hK hN hS (by decide) e_45 rfl rfl hl.1 rfl (Nat.le_of_ble_eq_true rfl) dX7_undo_32 ⟨Nat.le_refl _, Nat.le_refl _⟩ (fun H locs hS => ?_)
    refine lv_aload_n hx hb dX7_undo_35 rfl (lv_at hl 0 rfl) ?_
    refine r_get (v := .int (gI t4 18)) (C := RX7) (T := TX7) (N := 19) hx hb hts hin_X7 hown hK hS (by decide) e_45 rfl 2 (by decide) hk_f101 rfl rfl dX7_undo_36 ?_
    subst hQ
    exact r_iret hx hb hr hK hS hB hlocks dX7_undo_39
  · have hB := it_t c1 hB
    refine lv_bipush (v := (-2 : Int32)) hx hb dX7_undo_7 (by decide) ?_
    subst hQ
    exact r_iret hx hb hr hK hS hB hlocks dX7_undo_9
set_option maxHeartbeats 4000000 in
set_option maxRecDepth 100000 in
theorem c_X7_ones (l : Launch) (dC : Nat → ClassId) (dI : Nat → Nat → Nat) (ad : Nat → Nat) (cA : Nat → ClassId) (σ : Sg) (a1 : Int32) (z : Int32) (hB : f_X7_ones a1 = some z) : Ki l dC dI ad cA yX7_ones wsX7_ones 0 0 [.int a1] σ (z, σ) := by
  refine mk_i (cc := cX7_ones) (maxL := 3) (ret := (some .int)) (by decide) rfl (Nat.le_of_ble_eq_true rfl) ?_
  intro p e s m args below meth c Q H locs ls ⟨hx, hb, hr, hml, hown, hts, hlocks, hK, hN⟩ hQ hS hl
  have hown : s.vm.findClass RX7 = some m.cls := hown
  have hl : lv_has ls 3 [(0, .int a1)] := hl
  unfold f_X7_ones at hB
  refine lv_iconst (v := (0 : Int32)) hx hb dX7_ones_0 (by decide) ?_
  refine lv_istore_n (lv' := [(1, .int (0 : Int32)), (0, .int a1)]) hx hb dX7_ones_1 rfl hl (by decide) rfl (fun ls hl => ?_)
  refine lv_iconst (v := (0 : Int32)) hx hb dX7_ones_2 (by decide) ?_
  refine lv_istore_n (lv' := [(2, .int (0 : Int32)), (1, .int (0 : Int32)), (0, .int a1)]) hx hb dX7_ones_3 rfl hl (by decide) rfl (fun ls hl => ?_)
  obtain ⟨t6, ht6, hB⟩ := bi_at hB
  refine wl_W (body := fun a => f_X7_ones_B4 a1 a.1 a.2) (Hd := fun a : Int32 × Int32 => ∀ (H : Heap) (locs : List Loc) (ls : Array Slot), ST dC dI ad cA s σ H locs → lv_has ls 3 [(0, .int a1), (1, .int a.1), (2, .int a.2)] → W p l e (RM 0 0) s m args below meth c H locs 0 0 Q (F0 m 4 ls [])) (Ex := fun b : Int32 => ∀ (H : Heap) (locs : List Loc) (ls : Array Slot), ST dC dI ad cA s σ H locs → lv_has ls 3 [(1, .int b)] → W p l e (RM 0 0) s m args below meth c H locs 0 0 Q (F0 m 24 ls [])) ?_ FU _ t6 ht6 ?_ H locs ls hS (lv_sub hl [2, 1, 0] rfl)
  · intro a r4 hB hI4 hE4 H locs ls hS hl
    obtain ⟨x1, x2⟩ := a
    have hB : f_X7_ones_B4 a1 x1 x2 = some r4 := hB
    unfold f_X7_ones_B4 at hB
    have hS : ST dC dI ad cA s σ H locs := hS
    have hl : lv_has ls 3 [(0, .int a1), (1, .int x1), (2, .int x2)] := hl
    show W p l e (RM 0 0) s m args below meth c H locs 0 0 Q (F0 m 4 ls [])
    refine lv_iload_n hx hb dX7_ones_4 rfl (lv_at hl 2 rfl) ?_
    refine lv_bipush (v := (10 : Int32)) hx hb dX7_ones_5 (by decide) ?_
    refine lv_icmp_ge (tgt := 24) hx hb dX7_ones_7 (by decide) (fun c3 => ?_) (fun c3 => ?_)
    · have hB := it_t c3 hB
      exact hE4 _ (Option.some.inj hB).symm H locs ls hS (lv_sub hl [1] rfl)
    · have hB := it_f c3 hB
      refine lv_iload_n hx hb dX7_ones_10 rfl (lv_at hl 1 rfl) ?_
      refine lv_iload_n hx hb dX7_ones_11 rfl (lv_at hl 0 rfl) ?_
      refine lv_iload_n hx hb dX7_ones_12 rfl (lv_at hl 2 rfl) ?_
      refine lv_ishr hx hb dX7_ones_13 ?_
      refine lv_iconst (v := (1 : Int32)) hx hb dX7_ones_14 (by decide) ?_
      refine lv_iand hx hb dX7_ones_15 ?_
      refine lv_iadd hx hb dX7_ones_16 ?_
      refine lv_topi (fun x4 ex4 => ?_)
      have hB := vl_at ex4 hB
      refine lv_istore_n (lv' := [(1, .int x4), (0, .int a1), (2, .int x2)]) hx hb dX7_ones_17 rfl hl (by decide) rfl (fun ls hl => ?_)
      obtain ⟨x5, ex5⟩ : ∃ y : Int32, y = x2 + (1 : Int32) := ⟨_, rfl⟩
      have hB := vl_at ex5 hB
      refine lv_iinc (v := x5) (lv' := [(2, .int x5), (1, .int x4), (0, .int a1)]) hx hb dX7_ones_18 hl (k := 2) rfl (by rw [ex5]; rfl) (by decide) rfl (fun ls hl => ?_)
      refine lv_goto (tgt := 4) hx hb dX7_ones_21 (by decide) ?_
      exact hI4 _ (Option.some.inj hB).symm H locs ls hS (lv_sub hl [2, 1, 0] rfl)
  · skip
    intro H locs ls hS hl
    have hS : ST dC dI ad cA s σ H locs := hS
    have hl : lv_has ls 3 [(1, .int t6)] := hl
    show W p l e (RM 0 0) s m args below meth c H locs 0 0 Q (F0 m 24 ls [])
    refine lv_iload_n hx hb dX7_ones_24 rfl (lv_at hl 0 rfl) ?_
    subst hQ
    exact r_iret hx hb hr hK hS (pz hB) hlocks dX7_ones_25
set_option maxHeartbeats 4000000 in
set_option maxRecDepth 100000 in
theorem c_X7_parts (l : Launch) (dC : Nat → ClassId) (dI : Nat → Nat → Nat) (ad : Nat → Nat) (cA : Nat → ClassId) (σ : Sg) (a1 : Int32) (z : Int32 × Sg) (hB : f_X7_parts σ a1 = some z) : Ki l dC dI ad cA yX7_parts wsX7_parts 1 20 [.ref (ad 45), .int a1] σ z := by
  refine mk_i (cc := cX7_parts) (maxL := 7) (ret := (some .boolean)) (by decide) rfl (Nat.le_of_ble_eq_true rfl) ?_
  intro p e s m args below meth c Q H locs ls ⟨hx, hb, hr, hml, hown, hts, hlocks, hK, hN⟩ hQ hS hl
  have hown : s.vm.findClass RX7 = some m.cls := hown
  have hl : lv_has ls 7 [(0, .ref (ad 45)), (1, .int a1)] := hl
  have hk_f31 := hts (.fieldLink RX7 31 "ChanceNetsModel" "part" "[I") (by decide +kernel)
  have hin_X7 : ∀ w ∈ u_ws RX7 TX7 19, w ∈ wsX7_parts := by decide +kernel
  have hk_f7 := hts (.fieldLink RX7 7 "ChanceNetsModel" "rows" "[I") (by decide +kernel)
  unfold f_X7_parts at hB
  refine lv_iconst (v := (1 : Int32)) hx hb dX7_parts_0 (by decide) ?_
  refine lv_istore_n (lv' := [(2, .int (1 : Int32)), (0, .ref (ad 45)), (1, .int a1)]) hx hb dX7_parts_1 rfl hl (by decide) rfl (fun ls hl => ?_)
  refine lv_iconst (v := (0 : Int32)) hx hb dX7_parts_2 (by decide) ?_
  refine lv_istore_n (lv' := [(3, .int (0 : Int32)), (2, .int (1 : Int32)), (0, .ref (ad 45)), (1, .int a1)]) hx hb dX7_parts_3 rfl hl (by decide) rfl (fun ls hl => ?_)
  obtain ⟨t7, ht7, hB⟩ := bi_at hB
  refine wl_W (body := fun a => f_X7_parts_B4 a.1 a.2) (Hd := fun a : Int32 × Sg => ∀ (H : Heap) (locs : List Loc) (ls : Array Slot), ST dC dI ad cA s a.2 H locs → lv_has ls 7 [(0, .ref (ad 45)), (1, .int a1), (2, .int (1 : Int32)), (3, .int a.1)] → W p l e (RM 1 20) s m args below meth c H locs 0 0 Q (F0 m 4 ls [])) (Ex := fun b : Sg => ∀ (H : Heap) (locs : List Loc) (ls : Array Slot), ST dC dI ad cA s b H locs → lv_has ls 7 [(0, .ref (ad 45)), (1, .int a1), (2, .int (1 : Int32))] → W p l e (RM 1 20) s m args below meth c H locs 0 0 Q (F0 m 23 ls [])) ?_ FU _ t7 ht7 ?_ H locs ls hS (lv_sub hl [2, 3, 1, 0] rfl)
  · intro a r4 hB hI4 hE4 H locs ls hS hl
    obtain ⟨x1, σ2⟩ := a
    have hB : f_X7_parts_B4 x1 σ2 = some r4 := hB
    unfold f_X7_parts_B4 at hB
    have hS : ST dC dI ad cA s σ2 H locs := hS
    have hl : lv_has ls 7 [(0, .ref (ad 45)), (1, .int a1), (2, .int (1 : Int32)), (3, .int x1)] := hl
    show W p l e (RM 1 20) s m args below meth c H locs 0 0 Q (F0 m 4 ls [])
    refine lv_iload_n hx hb dX7_parts_4 rfl (lv_at hl 3 rfl) ?_
    refine lv_bipush (v := (6 : Int32)) hx hb dX7_parts_5 (by decide) ?_
    refine lv_icmp_ge (tgt := 23) hx hb dX7_parts_7 (by decide) (fun c3 => ?_) (fun c3 => ?_)
    · have hB := it_t c3 hB
      exact hE4 _ (Option.some.inj hB).symm H locs ls hS (lv_sub hl [0, 1, 2] rfl)
    · have hB := it_f c3 hB
      refine lv_aload_n hx hb dX7_parts_10 rfl (lv_at hl 0 rfl) ?_
      refine r_get (v := .ref (ad 51)) (C := RX7) (T := TX7) (N := 19) hx hb hts hin_X7 hown hK hS (by decide) e_45 rfl 14 (by decide) hk_f31 rfl rfl dX7_parts_11 ?_
      refine lv_iload_n hx hb dX7_parts_14 rfl (lv_at hl 3 rfl) ?_
      refine lv_iload_n hx hb dX7_parts_15 rfl (lv_at hl 3 rfl) ?_
      obtain ⟨h4, hB⟩ := gd_at hB
      refine r_iast hx hb hK hS h4 dX7_parts_16 (fun H locs hS => ?_)
      obtain ⟨σ5, eσ5⟩ : ∃ t : Sg, t = pA σ2 51 x1.toNatClampNeg x1 := ⟨_, rfl⟩
      rw [← eσ5] at hS
      have hB := vl_at eσ5 hB
      obtain ⟨x6, ex6⟩ : ∃ y : Int32, y = x1 + (1 : Int32) := ⟨_, rfl⟩
      have hB := vl_at ex6 hB
      refine lv_iinc (v := x6) (lv' := [(3, .int x6), (0, .ref (ad 45)), (1, .int a1), (2, .int (1 : Int32))]) hx hb dX7_parts_17 hl (k := 3) rfl (by rw [ex6]; rfl) (by decide) rfl (fun ls hl => ?_)
      refine lv_goto (tgt := 4) hx hb dX7_parts_20 (by decide) ?_
      exact hI4 _ (Option.some.inj hB).symm H locs ls hS (lv_sub hl [1, 2, 3, 0] rfl)
  · skip
    intro H locs ls hS hl
    have hS : ST dC dI ad cA s t7 H locs := hS
    have hl : lv_has ls 7 [(0, .ref (ad 45)), (1, .int a1), (2, .int (1 : Int32))] := hl
    show W p l e (RM 1 20) s m args below meth c H locs 0 0 Q (F0 m 23 ls [])
    refine lv_iconst (v := (0 : Int32)) hx hb dX7_parts_23 (by decide) ?_
    refine lv_istore_n (lv' := [(3, .int (0 : Int32)), (0, .ref (ad 45)), (1, .int a1), (2, .int (1 : Int32))]) hx hb dX7_parts_24 rfl hl (by decide) rfl (fun ls hl => ?_)
    obtain ⟨t39, ht39, hB⟩ := bi_at hB
    refine wl_W (body := fun a => f_X7_parts_B25 a1 a.1 a.2.1 a.2.2) (Hd := fun a : Int32 × Int32 × Sg => ∀ (H : Heap) (locs : List Loc) (ls : Array Slot), ST dC dI ad cA s a.2.2 H locs → lv_has ls 7 [(0, .ref (ad 45)), (1, .int a1), (2, .int a.1), (3, .int a.2.1)] → W p l e (RM 1 20) s m args below meth c H locs 0 0 Q (F0 m 25 ls [])) (Ex := fun b : Int32 × Sg => ∀ (H : Heap) (locs : List Loc) (ls : Array Slot), ST dC dI ad cA s b.2 H locs → lv_has ls 7 [(2, .int b.1)] → W p l e (RM 1 20) s m args below meth c H locs 0 0 Q (F0 m 143 ls [])) ?_ FU _ t39 ht39 ?_ H locs ls hS (lv_sub hl [1, 2, 3, 0] rfl)
    · intro a r25 hB hI25 hE25 H locs ls hS hl
      obtain ⟨x8, x9, σ10⟩ := a
      have hB : f_X7_parts_B25 a1 x8 x9 σ10 = some r25 := hB
      unfold f_X7_parts_B25 at hB
      have hS : ST dC dI ad cA s σ10 H locs := hS
      have hl : lv_has ls 7 [(0, .ref (ad 45)), (1, .int a1), (2, .int x8), (3, .int x9)] := hl
      show W p l e (RM 1 20) s m args below meth c H locs 0 0 Q (F0 m 25 ls [])
      refine lv_iload_n hx hb dX7_parts_25 rfl (lv_at hl 3 rfl) ?_
      refine lv_aload_n hx hb dX7_parts_26 rfl (lv_at hl 0 rfl) ?_
      obtain ⟨t11, ht11, hB⟩ := bi_at hB
      refine r_ViP ⟨hx, hb, hml, hown, hts⟩ (c_X7_lines l dC dI ad cA σ10 t11 ht11) (cwV 0 hts gX7_parts_X7_lines rfl rfl rfl (by decide +kernel) ⟨Nat.le_of_ble_eq_true rfl, Nat.le_of_ble_eq_true rfl⟩) hK hN hS (by decide) e_45 rfl rfl hl.1 rfl (Nat.le_of_ble_eq_true rfl) dX7_parts_27 ⟨Nat.le_refl _, Nat.le_refl _⟩ (fun H locs hS => ?_)
      refine lv_icmp_ge (tgt := 143) hx hb dX7_parts_30 (by decide) (fun c12 => ?_) (fun c12 => ?_)
      · have hB := it_t c12 hB
        exact hE25 _ (Option.some.inj hB).symm H locs ls hS (lv_sub hl [2] rfl)
      · have hB := it_f c12 hB
        refine lv_iload_n hx hb dX7_parts_33 rfl (lv_at hl 1 rfl) ?_
        refine lv_iload_n hx hb dX7_parts_34 rfl (lv_at hl 3 rfl) ?_
        refine lv_ishr hx hb dX7_parts_35 ?_
        refine lv_iconst (v := (1 : Int32)) hx hb dX7_parts_36 (by decide) ?_
        refine lv_iand hx hb dX7_parts_37 ?_
        refine lv_iconst (v := (1 : Int32)) hx hb dX7_parts_38 (by decide) ?_
        refine lv_icmp_ne (tgt := 137) hx hb dX7_parts_39 (by decide) (fun c13 => ?_) (fun c13 => ?_)
        · have hB := it_f c13 hB
          obtain ⟨x14, ex14⟩ : ∃ y : Int32, y = x9 + (1 : Int32) := ⟨_, rfl⟩
          have hB := vl_at ex14 hB
          refine lv_iinc (v := x14) (lv' := [(3, .int x14), (0, .ref (ad 45)), (1, .int a1), (2, .int x8)]) hx hb dX7_parts_137 hl (k := 3) rfl (by rw [ex14]; rfl) (by decide) rfl (fun ls hl => ?_)
          refine lv_goto (tgt := 25) hx hb dX7_parts_140 (by decide) ?_
          exact hI25 _ (Option.some.inj hB).symm H locs ls hS (lv_sub hl [1, 2, 3, 0] rfl)
        · have hB := it_t c13 hB
          refine lv_aload_n hx hb dX7_parts_42 rfl (lv_at hl 0 rfl) ?_
          refine r_get (v := .ref (ad 51)) (C := RX7) (T := TX7) (N := 19) hx hb hts hin_X7 hown hK hS (by decide) e_45 rfl 14 (by decide) hk_f31 rfl rfl dX7_parts_43 ?_
          refine lv_aload_n hx hb dX7_parts_46 rfl (lv_at hl 0 rfl) ?_
          refine r_get (v := .ref (ad 46)) (C := RX7) (T := TX7) (N := 19) hx hb hts hin_X7 hown hK hS (by decide) e_45 rfl 0 (by decide) hk_f7 rfl rfl dX7_parts_47 ?_
          refine lv_iconst (v := (1 : Int32)) hx hb dX7_parts_50 (by decide) ?_
          refine lv_iload_n hx hb dX7_parts_51 rfl (lv_at hl 3 rfl) ?_
          refine lv_iadd hx hb dX7_parts_52 ?_
          obtain ⟨h15, hB⟩ := gd_at hB
          refine r_iald hx hb hK hS h15 dX7_parts_53 ?_
          obtain ⟨h16, hB⟩ := gd_at hB
          refine r_iald hx hb hK hS h16 dX7_parts_54 ?_
          refine lv_topi (fun x17 ex17 => ?_)
          have hB := vl_at ex17 hB
          refine lv_istore (lv' := [(4, .int x17), (0, .ref (ad 45)), (1, .int a1), (2, .int x8), (3, .int x9)]) hx hb dX7_parts_55 hl (by decide) rfl (fun ls hl => ?_)
          refine lv_aload_n hx hb dX7_parts_57 rfl (lv_at hl 1 rfl) ?_
          refine r_get (v := .ref (ad 51)) (C := RX7) (T := TX7) (N := 19) hx hb hts hin_X7 hown hK hS (by decide) e_45 rfl 14 (by decide) hk_f31 rfl rfl dX7_parts_58 ?_
          refine lv_aload_n hx hb dX7_parts_61 rfl (lv_at hl 1 rfl) ?_
          refine r_get (v := .ref (ad 46)) (C := RX7) (T := TX7) (N := 19) hx hb hts hin_X7 hown hK hS (by decide) e_45 rfl 0 (by decide) hk_f7 rfl rfl dX7_parts_62 ?_
          refine lv_bipush (v := (11 : Int32)) hx hb dX7_parts_65 (by decide) ?_
          refine lv_iload_n hx hb dX7_parts_67 rfl (lv_at hl 4 rfl) ?_
          refine lv_iadd hx hb dX7_parts_68 ?_
          obtain ⟨h18, hB⟩ := gd_at hB
          refine r_iald hx hb hK hS h18 dX7_parts_69 ?_
          obtain ⟨h19, hB⟩ := gd_at hB
          refine r_iald hx hb hK hS h19 dX7_parts_70 ?_
          refine lv_topi (fun x20 ex20 => ?_)
          have hB := vl_at ex20 hB
          refine lv_istore (lv' := [(5, .int x20), (4, .int x17), (0, .ref (ad 45)), (1, .int a1), (2, .int x8), (3, .int x9)]) hx hb dX7_parts_71 hl (by decide) rfl (fun ls hl => ?_)
          refine lv_iload_n hx hb dX7_parts_73 rfl (lv_at hl 4 rfl) ?_
          have hJ89 : ∀ (x21 : Int32) (H : Heap) (locs : List Loc) (ls : Array Slot), f_X7_parts_J89 x9 σ10 x17 x20 x21 = some r25 → ST dC dI ad cA s σ10 H locs → lv_has ls 7 [(0, .ref (ad 45)), (1, .int a1), (3, .int x9), (4, .int x17), (5, .int x20)] → W p l e (RM 1 20) s m args below meth c H locs 0 0 Q (F0 m 89 ls [.int x21]) := by
            intro x21 H locs ls hB hS hl
            unfold f_X7_parts_J89 at hB
            refine lv_istore_n (lv' := [(2, .int x21), (0, .ref (ad 45)), (1, .int a1), (3, .int x9), (4, .int x17), (5, .int x20)]) hx hb dX7_parts_89 rfl hl (by decide) rfl (fun ls hl => ?_)
            refine lv_iconst (v := (0 : Int32)) hx hb dX7_parts_90 (by decide) ?_
            refine lv_istore (lv' := [(6, .int (0 : Int32)), (2, .int x21), (0, .ref (ad 45)), (1, .int a1), (3, .int x9), (4, .int x17), (5, .int x20)]) hx hb dX7_parts_91 hl (by decide) rfl (fun ls hl => ?_)
            obtain ⟨t35, ht35, hB⟩ := bi_at hB
            refine wl_W (body := fun a => f_X7_parts_B93 x17 x20 a.1 a.2) (Hd := fun a : Int32 × Sg => ∀ (H : Heap) (locs : List Loc) (ls : Array Slot), ST dC dI ad cA s a.2 H locs → lv_has ls 7 [(0, .ref (ad 45)), (1, .int a1), (2, .int x21), (3, .int x9), (4, .int x17), (5, .int x20), (6, .int a.1)] → W p l e (RM 1 20) s m args below meth c H locs 0 0 Q (F0 m 93 ls [])) (Ex := fun b : Sg => ∀ (H : Heap) (locs : List Loc) (ls : Array Slot), ST dC dI ad cA s b H locs → lv_has ls 7 [(0, .ref (ad 45)), (1, .int a1), (2, .int x21), (3, .int x9)] → W p l e (RM 1 20) s m args below meth c H locs 0 0 Q (F0 m 137 ls [])) ?_ FU _ t35 ht35 ?_ H locs ls hS (lv_sub hl [2, 3, 1, 4, 5, 6, 0] rfl)
            · intro a r93 hB hI93 hE93 H locs ls hS hl
              obtain ⟨x22, σ23⟩ := a
              have hB : f_X7_parts_B93 x17 x20 x22 σ23 = some r93 := hB
              unfold f_X7_parts_B93 at hB
              have hS : ST dC dI ad cA s σ23 H locs := hS
              have hl : lv_has ls 7 [(0, .ref (ad 45)), (1, .int a1), (2, .int x21), (3, .int x9), (4, .int x17), (5, .int x20), (6, .int x22)] := hl
              show W p l e (RM 1 20) s m args below meth c H locs 0 0 Q (F0 m 93 ls [])
              refine lv_iload hx hb dX7_parts_93 (lv_at hl 6 rfl) ?_
              refine lv_bipush (v := (6 : Int32)) hx hb dX7_parts_95 (by decide) ?_
              refine lv_icmp_ge (tgt := 137) hx hb dX7_parts_97 (by decide) (fun c24 => ?_) (fun c24 => ?_)
              · have hB := it_t c24 hB
                exact hE93 _ (Option.some.inj hB).symm H locs ls hS (lv_sub hl [0, 1, 2, 3] rfl)
              · have hB := it_f c24 hB
                refine lv_aload_n hx hb dX7_parts_100 rfl (lv_at hl 0 rfl) ?_
                refine r_get (v := .ref (ad 51)) (C := RX7) (T := TX7) (N := 19) hx hb hts hin_X7 hown hK hS (by decide) e_45 rfl 14 (by decide) hk_f31 rfl rfl dX7_parts_101 ?_
                refine lv_iload hx hb dX7_parts_104 (lv_at hl 6 rfl) ?_
                refine lv_aload_n hx hb dX7_parts_106 rfl (lv_at hl 0 rfl) ?_
                refine r_get (v := .ref (ad 51)) (C := RX7) (T := TX7) (N := 19) hx hb hts hin_X7 hown hK hS (by decide) e_45 rfl 14 (by decide) hk_f31 rfl rfl dX7_parts_107 ?_
                refine lv_iload hx hb dX7_parts_110 (lv_at hl 6 rfl) ?_
                obtain ⟨h25, hB⟩ := gd_at hB
                refine r_iald hx hb hK hS h25 dX7_parts_112 ?_
                refine lv_iload hx hb dX7_parts_113 (lv_at hl 5 rfl) ?_
                refine lv_icmp_ne (tgt := 123) hx hb dX7_parts_115 (by decide) (fun c26 => ?_) (fun c26 => ?_)
                · have hB := it_f c26 hB
                  refine lv_aload_n hx hb dX7_parts_123 rfl (lv_at hl 0 rfl) ?_
                  refine r_get (v := .ref (ad 51)) (C := RX7) (T := TX7) (N := 19) hx hb hts hin_X7 hown hK hS (by decide) e_45 rfl 14 (by decide) hk_f31 rfl rfl dX7_parts_124 ?_
                  refine lv_iload hx hb dX7_parts_127 (lv_at hl 6 rfl) ?_
                  obtain ⟨h27, hB⟩ := gd_at hB
                  refine r_iald hx hb hK hS h27 dX7_parts_129 ?_
                  refine lv_topi (fun x28 ex28 => ?_)
                  have hB := vl_at ex28 hB
                  obtain ⟨h29, hB⟩ := gd_at hB
                  refine r_iast hx hb hK hS h29 dX7_parts_130 (fun H locs hS => ?_)
                  obtain ⟨σ30, eσ30⟩ : ∃ t : Sg, t = pA σ23 51 x22.toNatClampNeg x28 := ⟨_, rfl⟩
                  rw [← eσ30] at hS
                  have hB := vl_at eσ30 hB
                  obtain ⟨x31, ex31⟩ : ∃ y : Int32, y = x22 + (1 : Int32) := ⟨_, rfl⟩
                  have hB := vl_at ex31 hB
                  refine lv_iinc (v := x31) (lv' := [(6, .int x31), (0, .ref (ad 45)), (1, .int a1), (2, .int x21), (3, .int x9), (4, .int x17), (5, .int x20)]) hx hb dX7_parts_131 hl (k := 6) rfl (by rw [ex31]; rfl) (by decide) rfl (fun ls hl => ?_)
                  refine lv_goto (tgt := 93) hx hb dX7_parts_134 (by decide) ?_
                  exact hI93 _ (Option.some.inj hB).symm H locs ls hS (lv_sub hl [1, 2, 3, 4, 5, 6, 0] rfl)
                · have hB := it_t c26 hB
                  refine lv_iload hx hb dX7_parts_118 (lv_at hl 4 rfl) ?_
                  refine lv_goto (tgt := 130) hx hb dX7_parts_120 (by decide) ?_
                  obtain ⟨h32, hB⟩ := gd_at hB
                  refine r_iast hx hb hK hS h32 dX7_parts_130 (fun H locs hS => ?_)
                  obtain ⟨σ33, eσ33⟩ : ∃ t : Sg, t = pA σ23 51 x22.toNatClampNeg x17 := ⟨_, rfl⟩
                  rw [← eσ33] at hS
                  have hB := vl_at eσ33 hB
                  obtain ⟨x34, ex34⟩ : ∃ y : Int32, y = x22 + (1 : Int32) := ⟨_, rfl⟩
                  have hB := vl_at ex34 hB
                  refine lv_iinc (v := x34) (lv' := [(6, .int x34), (0, .ref (ad 45)), (1, .int a1), (2, .int x21), (3, .int x9), (4, .int x17), (5, .int x20)]) hx hb dX7_parts_131 hl (k := 6) rfl (by rw [ex34]; rfl) (by decide) rfl (fun ls hl => ?_)
                  refine lv_goto (tgt := 93) hx hb dX7_parts_134 (by decide) ?_
                  exact hI93 _ (Option.some.inj hB).symm H locs ls hS (lv_sub hl [1, 2, 3, 4, 5, 6, 0] rfl)
            · skip
              intro H locs ls hS hl
              have hS : ST dC dI ad cA s t35 H locs := hS
              have hl : lv_has ls 7 [(0, .ref (ad 45)), (1, .int a1), (2, .int x21), (3, .int x9)] := hl
              show W p l e (RM 1 20) s m args below meth c H locs 0 0 Q (F0 m 137 ls [])
              obtain ⟨x36, ex36⟩ : ∃ y : Int32, y = x9 + (1 : Int32) := ⟨_, rfl⟩
              have hB := vl_at ex36 hB
              refine lv_iinc (v := x36) (lv' := [(3, .int x36), (0, .ref (ad 45)), (1, .int a1), (2, .int x21)]) hx hb dX7_parts_137 hl (k := 3) rfl (by rw [ex36]; rfl) (by decide) rfl (fun ls hl => ?_)
              refine lv_goto (tgt := 25) hx hb dX7_parts_140 (by decide) ?_
              exact hI25 _ (Option.some.inj hB).symm H locs ls hS (lv_sub hl [1, 2, 3, 0] rfl)
          have hJ88 : ∀ (H : Heap) (locs : List Loc) (ls : Array Slot), f_X7_parts_J88 x9 σ10 x17 x20 = some r25 → ST dC dI ad cA s σ10 H locs → lv_has ls 7 [(0, .ref (ad 45)), (1, .int a1), (3, .int x9), (4, .int x17), (5, .int x20)] → W p l e (RM 1 20) s m args below meth c H locs 0 0 Q (F0 m 88 ls []) := by
            intro H locs ls hB hS hl
            unfold f_X7_parts_J88 at hB
            refine lv_iconst (v := (0 : Int32)) hx hb dX7_parts_88 (by decide) ?_
            exact hJ89 (0 : Int32) H locs ls hB hS (lv_sub hl [0, 1, 2, 3, 4] rfl)
          refine lv_if_eq (tgt := 88) hx hb dX7_parts_74 (by decide) (fun c37 => ?_) (fun c37 => ?_)
          · have hB := it_t c37 hB
            exact hJ88  H locs ls hB hS (lv_sub hl [2, 3, 5, 1, 0] rfl)
          · have hB := it_f c37 hB
            refine lv_iload hx hb dX7_parts_77 (lv_at hl 1 rfl) ?_
            refine lv_iload hx hb dX7_parts_79 (lv_at hl 0 rfl) ?_
            refine lv_icmp_eq (tgt := 88) hx hb dX7_parts_81 (by decide) (fun c38 => ?_) (fun c38 => ?_)
            · have hB := it_t c38 hB
              exact hJ88  H locs ls hB hS (lv_sub hl [2, 3, 5, 1, 0] rfl)
            · have hB := it_f c38 hB
              refine lv_iconst (v := (1 : Int32)) hx hb dX7_parts_84 (by decide) ?_
              refine lv_goto (tgt := 89) hx hb dX7_parts_85 (by decide) ?_
              exact hJ89 (1 : Int32) H locs ls hB hS (lv_sub hl [2, 3, 5, 1, 0] rfl)
    · skip
      intro H locs ls hS hl
      have hS : ST dC dI ad cA s t39.2 H locs := hS
      have hl : lv_has ls 7 [(2, .int t39.1)] := hl
      show W p l e (RM 1 20) s m args below meth c H locs 0 0 Q (F0 m 143 ls [])
      refine lv_iload_n hx hb dX7_parts_143 rfl (lv_at hl 0 rfl) ?_
      obtain ⟨h40, hB⟩ := gd_at hB
      subst hQ
      exact r_zret hx hb hr hK hS (okZ_nar h40) hB hlocks dX7_parts_144
set_option maxHeartbeats 4000000 in
set_option maxRecDepth 100000 in
theorem c_X7_isTogether (l : Launch) (dC : Nat → ClassId) (dI : Nat → Nat → Nat) (ad : Nat → Nat) (cA : Nat → ClassId) (σ : Sg)  (z : Int32) (hB : f_X7_isTogether σ = some z) : Ki l dC dI ad cA yX7_isTogether wsX7_isTogether 0 0 [.ref (ad 45)] σ (z, σ) := by
  refine mk_i (cc := cX7_isTogether) (maxL := 3) (ret := (some .boolean)) (by decide) rfl (Nat.le_of_ble_eq_true rfl) ?_
  intro p e s m args below meth c Q H locs ls ⟨hx, hb, hr, hml, hown, hts, hlocks, hK, hN⟩ hQ hS hl
  have hown : s.vm.findClass RX7 = some m.cls := hown
  have hl : lv_has ls 3 [(0, .ref (ad 45))] := hl
  have hk_f13 := hts (.fieldLink RX7 13 "ChanceNetsModel" "nodes" "I") (by decide +kernel)
  have hin_X7 : ∀ w ∈ u_ws RX7 TX7 19, w ∈ wsX7_isTogether := by decide +kernel
  have hk_f31 := hts (.fieldLink RX7 31 "ChanceNetsModel" "part" "[I") (by decide +kernel)
  unfold f_X7_isTogether at hB
  refine lv_iconst (v := (1 : Int32)) hx hb dX7_isTogether_0 (by decide) ?_
  refine lv_istore_n (lv' := [(1, .int (1 : Int32)), (0, .ref (ad 45))]) hx hb dX7_isTogether_1 rfl hl (by decide) rfl (fun ls hl => ?_)
  refine lv_iconst (v := (1 : Int32)) hx hb dX7_isTogether_2 (by decide) ?_
  refine lv_istore_n (lv' := [(2, .int (1 : Int32)), (1, .int (1 : Int32)), (0, .ref (ad 45))]) hx hb dX7_isTogether_3 rfl hl (by decide) rfl (fun ls hl => ?_)
  obtain ⟨t11, ht11, hB⟩ := bi_at hB
  refine wl_W (body := fun a => f_X7_isTogether_B4 σ a.1 a.2) (Hd := fun a : Int32 × Int32 => ∀ (H : Heap) (locs : List Loc) (ls : Array Slot), ST dC dI ad cA s σ H locs → lv_has ls 3 [(0, .ref (ad 45)), (1, .int a.1), (2, .int a.2)] → W p l e (RM 0 0) s m args below meth c H locs 0 0 Q (F0 m 4 ls [])) (Ex := fun b : Int32 => ∀ (H : Heap) (locs : List Loc) (ls : Array Slot), ST dC dI ad cA s σ H locs → lv_has ls 3 [(1, .int b)] → W p l e (RM 0 0) s m args below meth c H locs 0 0 Q (F0 m 43 ls [])) ?_ FU _ t11 ht11 ?_ H locs ls hS (lv_sub hl [2, 1, 0] rfl)
  · intro a r4 hB hI4 hE4 H locs ls hS hl
    obtain ⟨x1, x2⟩ := a
    have hB : f_X7_isTogether_B4 σ x1 x2 = some r4 := hB
    unfold f_X7_isTogether_B4 at hB
    have hS : ST dC dI ad cA s σ H locs := hS
    have hl : lv_has ls 3 [(0, .ref (ad 45)), (1, .int x1), (2, .int x2)] := hl
    show W p l e (RM 0 0) s m args below meth c H locs 0 0 Q (F0 m 4 ls [])
    refine lv_iload_n hx hb dX7_isTogether_4 rfl (lv_at hl 2 rfl) ?_
    refine lv_aload_n hx hb dX7_isTogether_5 rfl (lv_at hl 0 rfl) ?_
    refine r_get (v := .int (gI σ 17)) (C := RX7) (T := TX7) (N := 19) hx hb hts hin_X7 hown hK hS (by decide) e_45 rfl 1 (by decide) hk_f13 rfl rfl dX7_isTogether_6 ?_
    refine lv_icmp_ge (tgt := 43) hx hb dX7_isTogether_9 (by decide) (fun c3 => ?_) (fun c3 => ?_)
    · have hB := it_t c3 hB
      exact hE4 _ (Option.some.inj hB).symm H locs ls hS (lv_sub hl [1] rfl)
    · have hB := it_f c3 hB
      refine lv_iload_n hx hb dX7_isTogether_12 rfl (lv_at hl 1 rfl) ?_
      refine lv_if_eq (tgt := 35) hx hb dX7_isTogether_13 (by decide) (fun c4 => ?_) (fun c4 => ?_)
      · have hB := it_t c4 hB
        refine lv_iconst (v := (0 : Int32)) hx hb dX7_isTogether_35 (by decide) ?_
        refine lv_istore_n (lv' := [(1, .int (0 : Int32)), (0, .ref (ad 45)), (2, .int x2)]) hx hb dX7_isTogether_36 rfl hl (by decide) rfl (fun ls hl => ?_)
        obtain ⟨x5, ex5⟩ : ∃ y : Int32, y = x2 + (1 : Int32) := ⟨_, rfl⟩
        have hB := vl_at ex5 hB
        refine lv_iinc (v := x5) (lv' := [(2, .int x5), (1, .int (0 : Int32)), (0, .ref (ad 45))]) hx hb dX7_isTogether_37 hl (k := 2) rfl (by rw [ex5]; rfl) (by decide) rfl (fun ls hl => ?_)
        refine lv_goto (tgt := 4) hx hb dX7_isTogether_40 (by decide) ?_
        exact hI4 _ (Option.some.inj hB).symm H locs ls hS (lv_sub hl [2, 1, 0] rfl)
      · have hB := it_f c4 hB
        refine lv_aload_n hx hb dX7_isTogether_16 rfl (lv_at hl 0 rfl) ?_
        refine r_get (v := .ref (ad 51)) (C := RX7) (T := TX7) (N := 19) hx hb hts hin_X7 hown hK hS (by decide) e_45 rfl 14 (by decide) hk_f31 rfl rfl dX7_isTogether_17 ?_
        refine lv_iload_n hx hb dX7_isTogether_20 rfl (lv_at hl 2 rfl) ?_
        obtain ⟨h6, hB⟩ := gd_at hB
        refine r_iald hx hb hK hS h6 dX7_isTogether_21 ?_
        refine lv_aload_n hx hb dX7_isTogether_22 rfl (lv_at hl 0 rfl) ?_
        refine r_get (v := .ref (ad 51)) (C := RX7) (T := TX7) (N := 19) hx hb hts hin_X7 hown hK hS (by decide) e_45 rfl 14 (by decide) hk_f31 rfl rfl dX7_isTogether_23 ?_
        refine lv_iconst (v := (0 : Int32)) hx hb dX7_isTogether_26 (by decide) ?_
        obtain ⟨h7, hB⟩ := gd_at hB
        refine r_iald hx hb hK hS h7 dX7_isTogether_27 ?_
        refine lv_icmp_ne (tgt := 35) hx hb dX7_isTogether_28 (by decide) (fun c8 => ?_) (fun c8 => ?_)
        · have hB := it_f c8 hB
          refine lv_iconst (v := (0 : Int32)) hx hb dX7_isTogether_35 (by decide) ?_
          refine lv_istore_n (lv' := [(1, .int (0 : Int32)), (0, .ref (ad 45)), (2, .int x2)]) hx hb dX7_isTogether_36 rfl hl (by decide) rfl (fun ls hl => ?_)
          obtain ⟨x9, ex9⟩ : ∃ y : Int32, y = x2 + (1 : Int32) := ⟨_, rfl⟩
          have hB := vl_at ex9 hB
          refine lv_iinc (v := x9) (lv' := [(2, .int x9), (1, .int (0 : Int32)), (0, .ref (ad 45))]) hx hb dX7_isTogether_37 hl (k := 2) rfl (by rw [ex9]; rfl) (by decide) rfl (fun ls hl => ?_)
          refine lv_goto (tgt := 4) hx hb dX7_isTogether_40 (by decide) ?_
          exact hI4 _ (Option.some.inj hB).symm H locs ls hS (lv_sub hl [2, 1, 0] rfl)
        · have hB := it_t c8 hB
          refine lv_iconst (v := (1 : Int32)) hx hb dX7_isTogether_31 (by decide) ?_
          refine lv_goto (tgt := 36) hx hb dX7_isTogether_32 (by decide) ?_
          refine lv_istore_n (lv' := [(1, .int (1 : Int32)), (0, .ref (ad 45)), (2, .int x2)]) hx hb dX7_isTogether_36 rfl hl (by decide) rfl (fun ls hl => ?_)
          obtain ⟨x10, ex10⟩ : ∃ y : Int32, y = x2 + (1 : Int32) := ⟨_, rfl⟩
          have hB := vl_at ex10 hB
          refine lv_iinc (v := x10) (lv' := [(2, .int x10), (1, .int (1 : Int32)), (0, .ref (ad 45))]) hx hb dX7_isTogether_37 hl (k := 2) rfl (by rw [ex10]; rfl) (by decide) rfl (fun ls hl => ?_)
          refine lv_goto (tgt := 4) hx hb dX7_isTogether_40 (by decide) ?_
          exact hI4 _ (Option.some.inj hB).symm H locs ls hS (lv_sub hl [2, 1, 0] rfl)
  · skip
    intro H locs ls hS hl
    have hS : ST dC dI ad cA s σ H locs := hS
    have hl : lv_has ls 3 [(1, .int t11)] := hl
    show W p l e (RM 0 0) s m args below meth c H locs 0 0 Q (F0 m 43 ls [])
    refine lv_iload_n hx hb dX7_isTogether_43 rfl (lv_at hl 0 rfl) ?_
    obtain ⟨h12, hB⟩ := gd_at hB
    subst hQ
    exact r_zret hx hb hr hK hS (okZ_nar h12) (pz hB) hlocks dX7_isTogether_44
set_option maxHeartbeats 4000000 in
set_option maxRecDepth 100000 in
theorem c_X7_hangs (l : Launch) (dC : Nat → ClassId) (dI : Nat → Nat → Nat) (ad : Nat → Nat) (cA : Nat → ClassId) (σ : Sg) (a1 : Int32) (z : Int32 × Sg) (hB : f_X7_hangs σ a1 = some z) : Ki l dC dI ad cA yX7_hangs wsX7_hangs 2 46 [.ref (ad 45), .int a1] σ z := by
  refine mk_i (cc := cX7_hangs) (maxL := 3) (ret := (some .boolean)) (by decide) rfl (Nat.le_of_ble_eq_true rfl) ?_
  intro p e s m args below meth c Q H locs ls ⟨hx, hb, hr, hml, hown, hts, hlocks, hK, hN⟩ hQ hS hl
  have hown : s.vm.findClass RX7 = some m.cls := hown
  have hl : lv_has ls 3 [(0, .ref (ad 45)), (1, .int a1)] := hl
  unfold f_X7_hangs at hB
  refine lv_iconst (v := (1 : Int32)) hx hb dX7_hangs_0 (by decide) ?_
  refine lv_aload_n hx hb dX7_hangs_1 rfl (lv_at hl 0 rfl) ?_
  obtain ⟨t1, ht1, hB⟩ := bi_at hB
  refine r_ViP ⟨hx, hb, hml, hown, hts⟩ (c_X7_lines l dC dI ad cA σ t1 ht1) (cwV 0 hts gX7_hangs_X7_lines rfl rfl rfl (by decide +kernel) ⟨Nat.le_of_ble_eq_true rfl, Nat.le_of_ble_eq_true rfl⟩) hK hN hS (by decide) e_45 rfl rfl hl.1 rfl (Nat.le_of_ble_eq_true rfl) dX7_hangs_2 ⟨Nat.le_refl _, Nat.le_refl _⟩ (fun H locs hS => ?_)
  refine lv_ishl hx hb dX7_hangs_5 ?_
  refine lv_iconst (v := (1 : Int32)) hx hb dX7_hangs_6 (by decide) ?_
  refine lv_isub hx hb dX7_hangs_7 ?_
  refine lv_topi (fun x2 ex2 => ?_)
  have hB := vl_at ex2 hB
  refine lv_istore_n (lv' := [(2, .int x2), (0, .ref (ad 45)), (1, .int a1)]) hx hb dX7_hangs_8 rfl hl (by decide) rfl (fun ls hl => ?_)
  refine lv_aload_n hx hb dX7_hangs_9 rfl (lv_at hl 1 rfl) ?_
  refine lv_iload_n hx hb dX7_hangs_10 rfl (lv_at hl 2 rfl) ?_
  refine lv_bipush (v := (-9 : Int32)) hx hb dX7_hangs_11 (by decide) ?_
  have hJ27 : ∀ (x3 : Int32) (H : Heap) (locs : List Loc) (ls : Array Slot), f_X7_hangs_J27 σ x3 = some z → ST dC dI ad cA s σ H locs → lv_has ls 3 [(0, .ref (ad 45))] → W p l e (RM 2 46) s m args below meth c H locs 0 0 Q (F0 m 27 ls [.int x3, .ref (ad 45)]) := by
    intro x3 H locs ls hB hS hl
    unfold f_X7_hangs_J27 at hB
    obtain ⟨t4, ht4, hB⟩ := bi_at hB
    refine r_Vi ⟨hx, hb, hml, hown, hts⟩ (c_X7_parts l dC dI ad cA σ x3 t4 ht4) (cwV 1 hts gX7_hangs_X7_parts rfl rfl rfl (by decide +kernel) ⟨Nat.le_of_ble_eq_true rfl, Nat.le_of_ble_eq_true rfl⟩) hK hN hS (by decide) e_45 rfl rfl hl.1 rfl (Nat.le_of_ble_eq_true rfl) dX7_hangs_27 ⟨Nat.le_refl _, Nat.le_refl _⟩ (fun H locs hS => ?_)
    refine lv_pop hx hb dX7_hangs_30 rfl ?_
    refine lv_aload_n hx hb dX7_hangs_31 rfl (lv_at hl 0 rfl) ?_
    obtain ⟨t5, ht5, hB⟩ := bi_at hB
    refine r_ViP ⟨hx, hb, hml, hown, hts⟩ (c_X7_isTogether l dC dI ad cA t4.2 t5 ht5) (cwV 0 hts gX7_hangs_X7_isTogether rfl rfl rfl (by decide +kernel) ⟨Nat.le_of_ble_eq_true rfl, Nat.le_of_ble_eq_true rfl⟩) hK hN hS (by decide) e_45 rfl rfl hl.1 rfl (Nat.le_of_ble_eq_true rfl) dX7_hangs_32 ⟨Nat.le_refl _, Nat.le_refl _⟩ (fun H locs hS => ?_)
    obtain ⟨h6, hB⟩ := gd_at hB
    subst hQ
    exact r_zret hx hb hr hK hS (okZ_nar h6) hB hlocks dX7_hangs_35
  refine lv_icmp_ne (tgt := 20) hx hb dX7_hangs_13 (by decide) (fun c7 => ?_) (fun c7 => ?_)
  · have hB := it_f c7 hB
    refine lv_iload_n hx hb dX7_hangs_20 rfl (lv_at hl 0 rfl) ?_
    refine lv_iconst (v := (1 : Int32)) hx hb dX7_hangs_21 (by decide) ?_
    refine lv_iload_n hx hb dX7_hangs_22 rfl (lv_at hl 2 rfl) ?_
    refine lv_ishl hx hb dX7_hangs_23 ?_
    refine lv_iconst (v := (-1 : Int32)) hx hb dX7_hangs_24 (by decide) ?_
    refine lv_ixor hx hb dX7_hangs_25 ?_
    refine lv_iand hx hb dX7_hangs_26 ?_
    exact hJ27 (x2 &&& (((1 : Int32) <<< (a1 &&& 31)) ^^^ (-1 : Int32))) H locs ls hB hS (lv_sub hl [1] rfl)
  · have hB := it_t c7 hB
    refine lv_iload_n hx hb dX7_hangs_16 rfl (lv_at hl 0 rfl) ?_
    refine lv_goto (tgt := 27) hx hb dX7_hangs_17 (by decide) ?_
    exact hJ27 x2 H locs ls hB hS (lv_sub hl [1] rfl)
set_option maxHeartbeats 4000000 in
set_option maxRecDepth 100000 in
theorem c_X7_weight (l : Launch) (dC : Nat → ClassId) (dI : Nat → Nat → Nat) (ad : Nat → Nat) (cA : Nat → ClassId) (σ : Sg) (a1 : Int32) (z : Int64) (hB : f_X7_weight σ a1 = some z) : Kl l dC dI ad cA yX7_weight wsX7_weight 1 20 [.ref (ad 45), .int a1] σ (z, σ) := by
  refine mk_l (cc := cX7_weight) (maxL := 5) (ret := (some .long)) (by decide) rfl (Nat.le_of_ble_eq_true rfl) ?_
  intro p e s m args below meth c Q H locs ls ⟨hx, hb, hr, hml, hown, hts, hlocks, hK, hN⟩ hQ hS hl
  have hown : s.vm.findClass RX7 = some m.cls := hown
  have hl : lv_has ls 5 [(0, .ref (ad 45)), (1, .int a1)] := hl
  have hk_f7 := hts (.fieldLink RX7 7 "ChanceNetsModel" "rows" "[I") (by decide +kernel)
  have hin_X7 : ∀ w ∈ u_ws RX7 TX7 19, w ∈ wsX7_weight := by decide +kernel
  unfold f_X7_weight at hB
  refine lv_lconst (v := (1 : Int64)) hx hb dX7_weight_0 (by decide) ?_
  refine lv_lstore_n (lv' := [(2, .long (1 : Int64)), (0, .ref (ad 45)), (1, .int a1)]) hx hb dX7_weight_1 rfl hl (by decide) rfl (fun ls hl => ?_)
  refine lv_iconst (v := (0 : Int32)) hx hb dX7_weight_2 (by decide) ?_
  refine lv_istore (lv' := [(4, .int (0 : Int32)), (2, .long (1 : Int64)), (0, .ref (ad 45)), (1, .int a1)]) hx hb dX7_weight_3 hl (by decide) rfl (fun ls hl => ?_)
  obtain ⟨t11, ht11, hB⟩ := bi_at hB
  refine wl_W (body := fun a => f_X7_weight_B5 σ a1 a.1 a.2) (Hd := fun a : Int64 × Int32 => ∀ (H : Heap) (locs : List Loc) (ls : Array Slot), ST dC dI ad cA s σ H locs → lv_has ls 5 [(0, .ref (ad 45)), (1, .int a1), (2, .long a.1), (4, .int a.2)] → W p l e (RM 1 20) s m args below meth c H locs 0 0 Q (F0 m 5 ls [])) (Ex := fun b : Int64 => ∀ (H : Heap) (locs : List Loc) (ls : Array Slot), ST dC dI ad cA s σ H locs → lv_has ls 5 [(2, .long b)] → W p l e (RM 1 20) s m args below meth c H locs 0 0 Q (F0 m 48 ls [])) ?_ FU _ t11 ht11 ?_ H locs ls hS (lv_sub hl [2, 3, 1, 0] rfl)
  · intro a r5 hB hI5 hE5 H locs ls hS hl
    obtain ⟨x1, x2⟩ := a
    have hB : f_X7_weight_B5 σ a1 x1 x2 = some r5 := hB
    unfold f_X7_weight_B5 at hB
    have hS : ST dC dI ad cA s σ H locs := hS
    have hl : lv_has ls 5 [(0, .ref (ad 45)), (1, .int a1), (2, .long x1), (4, .int x2)] := hl
    show W p l e (RM 1 20) s m args below meth c H locs 0 0 Q (F0 m 5 ls [])
    refine lv_iload hx hb dX7_weight_5 (lv_at hl 3 rfl) ?_
    refine lv_aload_n hx hb dX7_weight_7 rfl (lv_at hl 0 rfl) ?_
    obtain ⟨t3, ht3, hB⟩ := bi_at hB
    refine r_ViP ⟨hx, hb, hml, hown, hts⟩ (c_X7_lines l dC dI ad cA σ t3 ht3) (cwV 0 hts gX7_weight_X7_lines rfl rfl rfl (by decide +kernel) ⟨Nat.le_of_ble_eq_true rfl, Nat.le_of_ble_eq_true rfl⟩) hK hN hS (by decide) e_45 rfl rfl hl.1 rfl (Nat.le_of_ble_eq_true rfl) dX7_weight_8 ⟨Nat.le_refl _, Nat.le_refl _⟩ (fun H locs hS => ?_)
    refine lv_icmp_ge (tgt := 48) hx hb dX7_weight_11 (by decide) (fun c4 => ?_) (fun c4 => ?_)
    · have hB := it_t c4 hB
      exact hE5 _ (Option.some.inj hB).symm H locs ls hS (lv_sub hl [2] rfl)
    · have hB := it_f c4 hB
      refine lv_lload_n hx hb dX7_weight_14 rfl (lv_at hl 2 rfl) ?_
      refine lv_iload_n hx hb dX7_weight_15 rfl (lv_at hl 1 rfl) ?_
      refine lv_iload hx hb dX7_weight_16 (lv_at hl 3 rfl) ?_
      refine lv_ishr hx hb dX7_weight_18 ?_
      refine lv_iconst (v := (1 : Int32)) hx hb dX7_weight_19 (by decide) ?_
      refine lv_iand hx hb dX7_weight_20 ?_
      refine lv_iconst (v := (1 : Int32)) hx hb dX7_weight_21 (by decide) ?_
      refine lv_icmp_ne (tgt := 39) hx hb dX7_weight_22 (by decide) (fun c5 => ?_) (fun c5 => ?_)
      · have hB := it_f c5 hB
        refine lv_lconst (v := (1 : Int64)) hx hb dX7_weight_39 (by decide) ?_
        refine lv_lmul hx hb dX7_weight_40 ?_
        refine lv_topl (fun x6 ex6 => ?_)
        have hB := vl_at ex6 hB
        refine lv_lstore_n (lv' := [(2, .long x6), (0, .ref (ad 45)), (1, .int a1), (4, .int x2)]) hx hb dX7_weight_41 rfl hl (by decide) rfl (fun ls hl => ?_)
        obtain ⟨x7, ex7⟩ : ∃ y : Int32, y = x2 + (1 : Int32) := ⟨_, rfl⟩
        have hB := vl_at ex7 hB
        refine lv_iinc (v := x7) (lv' := [(4, .int x7), (2, .long x6), (0, .ref (ad 45)), (1, .int a1)]) hx hb dX7_weight_42 hl (k := 3) rfl (by rw [ex7]; rfl) (by decide) rfl (fun ls hl => ?_)
        refine lv_goto (tgt := 5) hx hb dX7_weight_45 (by decide) ?_
        exact hI5 _ (Option.some.inj hB).symm H locs ls hS (lv_sub hl [2, 3, 1, 0] rfl)
      · have hB := it_t c5 hB
        refine lv_aload_n hx hb dX7_weight_25 rfl (lv_at hl 0 rfl) ?_
        refine r_get (v := .ref (ad 46)) (C := RX7) (T := TX7) (N := 19) hx hb hts hin_X7 hown hK hS (by decide) e_45 rfl 0 (by decide) hk_f7 rfl rfl dX7_weight_26 ?_
        refine lv_bipush (v := (21 : Int32)) hx hb dX7_weight_29 (by decide) ?_
        refine lv_iload hx hb dX7_weight_31 (lv_at hl 3 rfl) ?_
        refine lv_iadd hx hb dX7_weight_33 ?_
        obtain ⟨h8, hB⟩ := gd_at hB
        refine r_iald hx hb hK hS h8 dX7_weight_34 ?_
        refine lv_i2l hx hb dX7_weight_35 rfl ?_
        refine lv_goto (tgt := 40) hx hb dX7_weight_36 (by decide) ?_
        refine lv_lmul hx hb dX7_weight_40 ?_
        refine lv_topl (fun x9 ex9 => ?_)
        have hB := vl_at ex9 hB
        refine lv_lstore_n (lv' := [(2, .long x9), (0, .ref (ad 45)), (1, .int a1), (4, .int x2)]) hx hb dX7_weight_41 rfl hl (by decide) rfl (fun ls hl => ?_)
        obtain ⟨x10, ex10⟩ : ∃ y : Int32, y = x2 + (1 : Int32) := ⟨_, rfl⟩
        have hB := vl_at ex10 hB
        refine lv_iinc (v := x10) (lv' := [(4, .int x10), (2, .long x9), (0, .ref (ad 45)), (1, .int a1)]) hx hb dX7_weight_42 hl (k := 3) rfl (by rw [ex10]; rfl) (by decide) rfl (fun ls hl => ?_)
        refine lv_goto (tgt := 5) hx hb dX7_weight_45 (by decide) ?_
        exact hI5 _ (Option.some.inj hB).symm H locs ls hS (lv_sub hl [2, 3, 1, 0] rfl)
  · skip
    intro H locs ls hS hl
    have hS : ST dC dI ad cA s σ H locs := hS
    have hl : lv_has ls 5 [(2, .long t11)] := hl
    show W p l e (RM 1 20) s m args below meth c H locs 0 0 Q (F0 m 48 ls [])
    refine lv_lload_n hx hb dX7_weight_48 rfl (lv_at hl 0 rfl) ?_
    subst hQ
    exact r_lret hx hb hr hK hS (pz hB) hlocks dX7_weight_49
set_option maxHeartbeats 4000000 in
set_option maxRecDepth 100000 in
theorem c_X7_isForest (l : Launch) (dC : Nat → ClassId) (dI : Nat → Nat → Nat) (ad : Nat → Nat) (cA : Nat → ClassId) (σ : Sg) (a1 : Int32) (a2 : Int32) (a3 : Int32) (z : Int32 × Sg) (hB : f_X7_isForest σ a1 a2 a3 = some z) : Ki l dC dI ad cA yX7_isForest wsX7_isForest 2 46 [.ref (ad 45), .int a1, .int a2, .int a3] σ z := by
  refine mk_i (cc := cX7_isForest) (maxL := 4) (ret := (some .boolean)) (by decide) rfl (Nat.le_of_ble_eq_true rfl) ?_
  intro p e s m args below meth c Q H locs ls ⟨hx, hb, hr, hml, hown, hts, hlocks, hK, hN⟩ hQ hS hl
  have hown : s.vm.findClass RX7 = some m.cls := hown
  have hl : lv_has ls 4 [(0, .ref (ad 45)), (1, .int a1), (2, .int a2), (3, .int a3)] := hl
  have hk_f13 := hts (.fieldLink RX7 13 "ChanceNetsModel" "nodes" "I") (by decide +kernel)
  have hin_X7 : ∀ w ∈ u_ws RX7 TX7 19, w ∈ wsX7_isForest := by decide +kernel
  unfold f_X7_isForest at hB
  refine lv_iload_n hx hb dX7_isForest_0 rfl (lv_at hl 1 rfl) ?_
  obtain ⟨t1, ht1, hB⟩ := bi_at hB
  refine r_SiP ⟨hx, hb, hml, hown, hts⟩ (c_X7_ones l dC dI ad cA σ a1 t1 ht1) (va_cwS 1 hts gX7_isForest_X7_ones rfl rfl rfl (by decide +kernel) ⟨Nat.le_of_ble_eq_true rfl, Nat.le_of_ble_eq_true rfl⟩) hK hN hS rfl hl.1 rfl (Nat.le_of_ble_eq_true rfl) dX7_isForest_1 ⟨Nat.le_refl _, Nat.le_refl _⟩ (fun H locs hS => ?_)
  refine lv_aload_n hx hb dX7_isForest_4 rfl (lv_at hl 0 rfl) ?_
  refine r_get (v := .int (gI σ 17)) (C := RX7) (T := TX7) (N := 19) hx hb hts hin_X7 hown hK hS (by decide) e_45 rfl 1 (by decide) hk_f13 rfl rfl dX7_isForest_5 ?_
  refine lv_iload_n hx hb dX7_isForest_8 rfl (lv_at hl 2 rfl) ?_
  refine lv_isub hx hb dX7_isForest_9 ?_
  refine lv_icmp_ne (tgt := 39) hx hb dX7_isForest_10 (by decide) (fun c2 => ?_) (fun c2 => ?_)
  · have hB := it_f c2 hB
    refine lv_iconst (v := (0 : Int32)) hx hb dX7_isForest_39 (by decide) ?_
    subst hQ
    exact r_zret hx hb hr hK hS rfl hB hlocks dX7_isForest_40
  · have hB := it_t c2 hB
    refine lv_iload_n hx hb dX7_isForest_13 rfl (lv_at hl 3 rfl) ?_
    refine lv_bipush (v := (-9 : Int32)) hx hb dX7_isForest_14 (by decide) ?_
    have hJ27 : ∀ (H : Heap) (locs : List Loc) (ls : Array Slot), f_X7_isForest_J27 σ a1 = some z → ST dC dI ad cA s σ H locs → lv_has ls 4 [(0, .ref (ad 45)), (1, .int a1)] → W p l e (RM 2 46) s m args below meth c H locs 0 0 Q (F0 m 27 ls []) := by
      intro H locs ls hB hS hl
      unfold f_X7_isForest_J27 at hB
      refine lv_aload_n hx hb dX7_isForest_27 rfl (lv_at hl 0 rfl) ?_
      refine lv_iload_n hx hb dX7_isForest_28 rfl (lv_at hl 1 rfl) ?_
      obtain ⟨t3, ht3, hB⟩ := bi_at hB
      refine r_Vi ⟨hx, hb, hml, hown, hts⟩ (c_X7_parts l dC dI ad cA σ a1 t3 ht3) (cwV 1 hts gX7_isForest_X7_parts rfl rfl rfl (by decide +kernel) ⟨Nat.le_of_ble_eq_true rfl, Nat.le_of_ble_eq_true rfl⟩) hK hN hS (by decide) e_45 rfl rfl hl.1 rfl (Nat.le_of_ble_eq_true rfl) dX7_isForest_29 ⟨Nat.le_refl _, Nat.le_refl _⟩ (fun H locs hS => ?_)
      refine lv_if_eq (tgt := 39) hx hb dX7_isForest_32 (by decide) (fun c4 => ?_) (fun c4 => ?_)
      · have hB := it_t c4 hB
        refine lv_iconst (v := (0 : Int32)) hx hb dX7_isForest_39 (by decide) ?_
        subst hQ
        exact r_zret hx hb hr hK hS rfl hB hlocks dX7_isForest_40
      · have hB := it_f c4 hB
        refine lv_iconst (v := (1 : Int32)) hx hb dX7_isForest_35 (by decide) ?_
        refine lv_goto (tgt := 40) hx hb dX7_isForest_36 (by decide) ?_
        subst hQ
        exact r_zret hx hb hr hK hS rfl hB hlocks dX7_isForest_40
    refine lv_icmp_eq (tgt := 27) hx hb dX7_isForest_16 (by decide) (fun c5 => ?_) (fun c5 => ?_)
    · have hB := it_t c5 hB
      exact hJ27  H locs ls hB hS (lv_sub hl [0, 1] rfl)
    · have hB := it_f c5 hB
      refine lv_iload_n hx hb dX7_isForest_19 rfl (lv_at hl 1 rfl) ?_
      refine lv_iload_n hx hb dX7_isForest_20 rfl (lv_at hl 3 rfl) ?_
      refine lv_ishr hx hb dX7_isForest_21 ?_
      refine lv_iconst (v := (1 : Int32)) hx hb dX7_isForest_22 (by decide) ?_
      refine lv_iand hx hb dX7_isForest_23 ?_
      refine lv_if_ne (tgt := 39) hx hb dX7_isForest_24 (by decide) (fun c6 => ?_) (fun c6 => ?_)
      · have hB := it_f c6 hB
        refine lv_iconst (v := (0 : Int32)) hx hb dX7_isForest_39 (by decide) ?_
        subst hQ
        exact r_zret hx hb hr hK hS rfl hB hlocks dX7_isForest_40
      · have hB := it_t c6 hB
        exact hJ27  H locs ls hB hS (lv_sub hl [0, 1] rfl)
set_option maxHeartbeats 4000000 in
set_option maxRecDepth 100000 in
theorem c_X7_treesBut (l : Launch) (dC : Nat → ClassId) (dI : Nat → Nat → Nat) (ad : Nat → Nat) (cA : Nat → ClassId) (σ : Sg) (a1 : Int32) (z : Int64 × Sg) (hB : f_X7_treesBut σ a1 = some z) : Kl l dC dI ad cA yX7_treesBut wsX7_treesBut 3 69 [.ref (ad 45), .int a1] σ z := by
  refine mk_l (cc := cX7_treesBut) (maxL := 5) (ret := (some .long)) (by decide) rfl (Nat.le_of_ble_eq_true rfl) ?_
  intro p e s m args below meth c Q H locs ls ⟨hx, hb, hr, hml, hown, hts, hlocks, hK, hN⟩ hQ hS hl
  have hown : s.vm.findClass RX7 = some m.cls := hown
  have hl : lv_has ls 5 [(0, .ref (ad 45)), (1, .int a1)] := hl
  unfold f_X7_treesBut at hB
  refine lv_lconst (v := (0 : Int64)) hx hb dX7_treesBut_0 (by decide) ?_
  refine lv_lstore_n (lv' := [(2, .long (0 : Int64)), (0, .ref (ad 45)), (1, .int a1)]) hx hb dX7_treesBut_1 rfl hl (by decide) rfl (fun ls hl => ?_)
  refine lv_iconst (v := (0 : Int32)) hx hb dX7_treesBut_2 (by decide) ?_
  refine lv_istore (lv' := [(4, .int (0 : Int32)), (2, .long (0 : Int64)), (0, .ref (ad 45)), (1, .int a1)]) hx hb dX7_treesBut_3 hl (by decide) rfl (fun ls hl => ?_)
  obtain ⟨t13, ht13, hB⟩ := bi_at hB
  refine wl_W (body := fun a => f_X7_treesBut_B5 a1 a.1 a.2.1 a.2.2) (Hd := fun a : Int64 × Int32 × Sg => ∀ (H : Heap) (locs : List Loc) (ls : Array Slot), ST dC dI ad cA s a.2.2 H locs → lv_has ls 5 [(0, .ref (ad 45)), (1, .int a1), (2, .long a.1), (4, .int a.2.1)] → W p l e (RM 3 69) s m args below meth c H locs 0 0 Q (F0 m 5 ls [])) (Ex := fun b : Int64 × Sg => ∀ (H : Heap) (locs : List Loc) (ls : Array Slot), ST dC dI ad cA s b.2 H locs → lv_has ls 5 [(2, .long b.1)] → W p l e (RM 3 69) s m args below meth c H locs 0 0 Q (F0 m 46 ls [])) ?_ FU _ t13 ht13 ?_ H locs ls hS (lv_sub hl [2, 3, 1, 0] rfl)
  · intro a r5 hB hI5 hE5 H locs ls hS hl
    obtain ⟨x1, x2, σ3⟩ := a
    have hB : f_X7_treesBut_B5 a1 x1 x2 σ3 = some r5 := hB
    unfold f_X7_treesBut_B5 at hB
    have hS : ST dC dI ad cA s σ3 H locs := hS
    have hl : lv_has ls 5 [(0, .ref (ad 45)), (1, .int a1), (2, .long x1), (4, .int x2)] := hl
    show W p l e (RM 3 69) s m args below meth c H locs 0 0 Q (F0 m 5 ls [])
    refine lv_iload hx hb dX7_treesBut_5 (lv_at hl 3 rfl) ?_
    refine lv_iconst (v := (1 : Int32)) hx hb dX7_treesBut_7 (by decide) ?_
    refine lv_aload_n hx hb dX7_treesBut_8 rfl (lv_at hl 0 rfl) ?_
    obtain ⟨t4, ht4, hB⟩ := bi_at hB
    refine r_ViP ⟨hx, hb, hml, hown, hts⟩ (c_X7_lines l dC dI ad cA σ3 t4 ht4) (cwV 0 hts gX7_treesBut_X7_lines rfl rfl rfl (by decide +kernel) ⟨Nat.le_of_ble_eq_true rfl, Nat.le_of_ble_eq_true rfl⟩) hK hN hS (by decide) e_45 rfl rfl hl.1 rfl (Nat.le_of_ble_eq_true rfl) dX7_treesBut_9 ⟨Nat.le_refl _, Nat.le_refl _⟩ (fun H locs hS => ?_)
    refine lv_ishl hx hb dX7_treesBut_12 ?_
    refine lv_icmp_ge (tgt := 46) hx hb dX7_treesBut_13 (by decide) (fun c5 => ?_) (fun c5 => ?_)
    · have hB := it_t c5 hB
      exact hE5 _ (Option.some.inj hB).symm H locs ls hS (lv_sub hl [2] rfl)
    · have hB := it_f c5 hB
      refine lv_lload_n hx hb dX7_treesBut_16 rfl (lv_at hl 2 rfl) ?_
      refine lv_aload_n hx hb dX7_treesBut_17 rfl (lv_at hl 0 rfl) ?_
      refine lv_iload hx hb dX7_treesBut_18 (lv_at hl 3 rfl) ?_
      refine lv_iconst (v := (1 : Int32)) hx hb dX7_treesBut_20 (by decide) ?_
      refine lv_iload_n hx hb dX7_treesBut_21 rfl (lv_at hl 1 rfl) ?_
      obtain ⟨t6, ht6, hB⟩ := bi_at hB
      refine r_Vi ⟨hx, hb, hml, hown, hts⟩ (c_X7_isForest l dC dI ad cA σ3 x2 (1 : Int32) a1 t6 ht6) (cwV 3 hts gX7_treesBut_X7_isForest rfl rfl rfl (by decide +kernel) ⟨Nat.le_of_ble_eq_true rfl, Nat.le_of_ble_eq_true rfl⟩) hK hN hS (by decide) e_45 rfl rfl hl.1 rfl (Nat.le_of_ble_eq_true rfl) dX7_treesBut_22 ⟨Nat.le_refl _, Nat.le_refl _⟩ (fun H locs hS => ?_)
      refine lv_if_eq (tgt := 37) hx hb dX7_treesBut_25 (by decide) (fun c7 => ?_) (fun c7 => ?_)
      · have hB := it_t c7 hB
        refine lv_lconst (v := (0 : Int64)) hx hb dX7_treesBut_37 (by decide) ?_
        refine lv_ladd hx hb dX7_treesBut_38 ?_
        refine lv_topl (fun x8 ex8 => ?_)
        have hB := vl_at ex8 hB
        refine lv_lstore_n (lv' := [(2, .long x8), (0, .ref (ad 45)), (1, .int a1), (4, .int x2)]) hx hb dX7_treesBut_39 rfl hl (by decide) rfl (fun ls hl => ?_)
        obtain ⟨x9, ex9⟩ : ∃ y : Int32, y = x2 + (1 : Int32) := ⟨_, rfl⟩
        have hB := vl_at ex9 hB
        refine lv_iinc (v := x9) (lv' := [(4, .int x9), (2, .long x8), (0, .ref (ad 45)), (1, .int a1)]) hx hb dX7_treesBut_40 hl (k := 3) rfl (by rw [ex9]; rfl) (by decide) rfl (fun ls hl => ?_)
        refine lv_goto (tgt := 5) hx hb dX7_treesBut_43 (by decide) ?_
        exact hI5 _ (Option.some.inj hB).symm H locs ls hS (lv_sub hl [2, 3, 1, 0] rfl)
      · have hB := it_f c7 hB
        refine lv_aload_n hx hb dX7_treesBut_28 rfl (lv_at hl 0 rfl) ?_
        refine lv_iload hx hb dX7_treesBut_29 (lv_at hl 3 rfl) ?_
        obtain ⟨t10, ht10, hB⟩ := bi_at hB
        refine r_VlP ⟨hx, hb, hml, hown, hts⟩ (c_X7_weight l dC dI ad cA t6.2 x2 t10 ht10) (cwV 1 hts gX7_treesBut_X7_weight rfl rfl rfl (by decide +kernel) ⟨Nat.le_of_ble_eq_true rfl, Nat.le_of_ble_eq_true rfl⟩) hK hN hS (by decide) e_45 rfl rfl hl.1 rfl (Nat.le_of_ble_eq_true rfl) dX7_treesBut_31 ⟨Nat.le_refl _, Nat.le_refl _⟩ (fun H locs hS => ?_)
        refine lv_goto (tgt := 38) hx hb dX7_treesBut_34 (by decide) ?_
        refine lv_ladd hx hb dX7_treesBut_38 ?_
        refine lv_topl (fun x11 ex11 => ?_)
        have hB := vl_at ex11 hB
        refine lv_lstore_n (lv' := [(2, .long x11), (0, .ref (ad 45)), (1, .int a1), (4, .int x2)]) hx hb dX7_treesBut_39 rfl hl (by decide) rfl (fun ls hl => ?_)
        obtain ⟨x12, ex12⟩ : ∃ y : Int32, y = x2 + (1 : Int32) := ⟨_, rfl⟩
        have hB := vl_at ex12 hB
        refine lv_iinc (v := x12) (lv' := [(4, .int x12), (2, .long x11), (0, .ref (ad 45)), (1, .int a1)]) hx hb dX7_treesBut_40 hl (k := 3) rfl (by rw [ex12]; rfl) (by decide) rfl (fun ls hl => ?_)
        refine lv_goto (tgt := 5) hx hb dX7_treesBut_43 (by decide) ?_
        exact hI5 _ (Option.some.inj hB).symm H locs ls hS (lv_sub hl [2, 3, 1, 0] rfl)
  · skip
    intro H locs ls hS hl
    have hS : ST dC dI ad cA s t13.2 H locs := hS
    have hl : lv_has ls 5 [(2, .long t13.1)] := hl
    show W p l e (RM 3 69) s m args below meth c H locs 0 0 Q (F0 m 46 ls [])
    refine lv_lload_n hx hb dX7_treesBut_46 rfl (lv_at hl 0 rfl) ?_
    subst hQ
    exact r_lret hx hb hr hK hS hB hlocks dX7_treesBut_47
set_option maxHeartbeats 4000000 in
set_option maxRecDepth 100000 in
theorem c_X7_steps (l : Launch) (dC : Nat → ClassId) (dI : Nat → Nat → Nat) (ad : Nat → Nat) (cA : Nat → ClassId) (σ : Sg) (a1 : Int32) (a2 : Int32) (a3 : Int32) (z : Int64 × Sg) (hB : f_X7_steps σ a1 a2 a3 = some z) : Kl l dC dI ad cA yX7_steps wsX7_steps 3 69 [.ref (ad 45), .int a1, .int a2, .int a3] σ z := by
  refine mk_l (cc := cX7_steps) (maxL := 10) (ret := (some .long)) (by decide) rfl (Nat.le_of_ble_eq_true rfl) ?_
  intro p e s m args below meth c Q H locs ls ⟨hx, hb, hr, hml, hown, hts, hlocks, hK, hN⟩ hQ hS hl
  have hown : s.vm.findClass RX7 = some m.cls := hown
  have hl : lv_has ls 10 [(0, .ref (ad 45)), (1, .int a1), (2, .int a2), (3, .int a3)] := hl
  have hk_f31 := hts (.fieldLink RX7 31 "ChanceNetsModel" "part" "[I") (by decide +kernel)
  have hin_X7 : ∀ w ∈ u_ws RX7 TX7 19, w ∈ wsX7_steps := by decide +kernel
  have hk_f13 := hts (.fieldLink RX7 13 "ChanceNetsModel" "nodes" "I") (by decide +kernel)
  unfold f_X7_steps at hB
  refine lv_lconst (v := (0 : Int64)) hx hb dX7_steps_0 (by decide) ?_
  refine lv_lstore (lv' := [(4, .long (0 : Int64)), (0, .ref (ad 45)), (1, .int a1), (2, .int a2), (3, .int a3)]) hx hb dX7_steps_1 hl (by decide) rfl (fun ls hl => ?_)
  refine lv_iconst (v := (0 : Int32)) hx hb dX7_steps_3 (by decide) ?_
  refine lv_istore (lv' := [(6, .int (0 : Int32)), (4, .long (0 : Int64)), (0, .ref (ad 45)), (1, .int a1), (2, .int a2), (3, .int a3)]) hx hb dX7_steps_4 hl (by decide) rfl (fun ls hl => ?_)
  obtain ⟨t28, ht28, hB⟩ := bi_at hB
  refine wl_W (body := fun a => f_X7_steps_B6 a1 a2 a3 a.1 a.2.1 a.2.2) (Hd := fun a : Int64 × Int32 × Sg => ∀ (H : Heap) (locs : List Loc) (ls : Array Slot), ST dC dI ad cA s a.2.2 H locs → lv_has ls 10 [(0, .ref (ad 45)), (1, .int a1), (2, .int a2), (3, .int a3), (4, .long a.1), (6, .int a.2.1)] → W p l e (RM 3 69) s m args below meth c H locs 0 0 Q (F0 m 6 ls [])) (Ex := fun b : Int64 × Sg => ∀ (H : Heap) (locs : List Loc) (ls : Array Slot), ST dC dI ad cA s b.2 H locs → lv_has ls 10 [(4, .long b.1)] → W p l e (RM 3 69) s m args below meth c H locs 0 0 Q (F0 m 117 ls [])) ?_ FU _ t28 ht28 ?_ H locs ls hS (lv_sub hl [2, 3, 4, 5, 1, 0] rfl)
  · intro a r6 hB hI6 hE6 H locs ls hS hl
    obtain ⟨x1, x2, σ3⟩ := a
    have hB : f_X7_steps_B6 a1 a2 a3 x1 x2 σ3 = some r6 := hB
    unfold f_X7_steps_B6 at hB
    have hS : ST dC dI ad cA s σ3 H locs := hS
    have hl : lv_has ls 10 [(0, .ref (ad 45)), (1, .int a1), (2, .int a2), (3, .int a3), (4, .long x1), (6, .int x2)] := hl
    show W p l e (RM 3 69) s m args below meth c H locs 0 0 Q (F0 m 6 ls [])
    refine lv_iload hx hb dX7_steps_6 (lv_at hl 5 rfl) ?_
    refine lv_iconst (v := (1 : Int32)) hx hb dX7_steps_8 (by decide) ?_
    refine lv_aload_n hx hb dX7_steps_9 rfl (lv_at hl 0 rfl) ?_
    obtain ⟨t4, ht4, hB⟩ := bi_at hB
    refine r_ViP ⟨hx, hb, hml, hown, hts⟩ (c_X7_lines l dC dI ad cA σ3 t4 ht4) (cwV 0 hts gX7_steps_X7_lines rfl rfl rfl (by decide +kernel) ⟨Nat.le_of_ble_eq_true rfl, Nat.le_of_ble_eq_true rfl⟩) hK hN hS (by decide) e_45 rfl rfl hl.1 rfl (Nat.le_of_ble_eq_true rfl) dX7_steps_10 ⟨Nat.le_refl _, Nat.le_refl _⟩ (fun H locs hS => ?_)
    refine lv_ishl hx hb dX7_steps_13 ?_
    refine lv_icmp_ge (tgt := 117) hx hb dX7_steps_14 (by decide) (fun c5 => ?_) (fun c5 => ?_)
    · have hB := it_t c5 hB
      exact hE6 _ (Option.some.inj hB).symm H locs ls hS (lv_sub hl [4] rfl)
    · have hB := it_f c5 hB
      refine lv_aload_n hx hb dX7_steps_17 rfl (lv_at hl 0 rfl) ?_
      refine lv_iload hx hb dX7_steps_18 (lv_at hl 5 rfl) ?_
      refine lv_iconst (v := (2 : Int32)) hx hb dX7_steps_20 (by decide) ?_
      refine lv_iload_n hx hb dX7_steps_21 rfl (lv_at hl 3 rfl) ?_
      obtain ⟨t6, ht6, hB⟩ := bi_at hB
      refine r_Vi ⟨hx, hb, hml, hown, hts⟩ (c_X7_isForest l dC dI ad cA σ3 x2 (2 : Int32) a3 t6 ht6) (cwV 3 hts gX7_steps_X7_isForest rfl rfl rfl (by decide +kernel) ⟨Nat.le_of_ble_eq_true rfl, Nat.le_of_ble_eq_true rfl⟩) hK hN hS (by decide) e_45 rfl rfl hl.1 rfl (Nat.le_of_ble_eq_true rfl) dX7_steps_22 ⟨Nat.le_refl _, Nat.le_refl _⟩ (fun H locs hS => ?_)
      refine lv_if_eq (tgt := 111) hx hb dX7_steps_25 (by decide) (fun c7 => ?_) (fun c7 => ?_)
      · have hB := it_t c7 hB
        obtain ⟨x8, ex8⟩ : ∃ y : Int32, y = x2 + (1 : Int32) := ⟨_, rfl⟩
        have hB := vl_at ex8 hB
        refine lv_iinc (v := x8) (lv' := [(6, .int x8), (0, .ref (ad 45)), (1, .int a1), (2, .int a2), (3, .int a3), (4, .long x1)]) hx hb dX7_steps_111 hl (k := 5) rfl (by rw [ex8]; rfl) (by decide) rfl (fun ls hl => ?_)
        refine lv_goto (tgt := 6) hx hb dX7_steps_114 (by decide) ?_
        exact hI6 _ (Option.some.inj hB).symm H locs ls hS (lv_sub hl [1, 2, 3, 4, 5, 0] rfl)
      · have hB := it_f c7 hB
        refine lv_aload_n hx hb dX7_steps_28 rfl (lv_at hl 0 rfl) ?_
        refine r_get (v := .ref (ad 51)) (C := RX7) (T := TX7) (N := 19) hx hb hts hin_X7 hown hK hS (by decide) e_45 rfl 14 (by decide) hk_f31 rfl rfl dX7_steps_29 ?_
        refine lv_iload_n hx hb dX7_steps_32 rfl (lv_at hl 1 rfl) ?_
        obtain ⟨h9, hB⟩ := gd_at hB
        refine r_iald hx hb hK hS h9 dX7_steps_33 ?_
        refine lv_aload_n hx hb dX7_steps_34 rfl (lv_at hl 0 rfl) ?_
        refine r_get (v := .ref (ad 51)) (C := RX7) (T := TX7) (N := 19) hx hb hts hin_X7 hown hK hS (by decide) e_45 rfl 14 (by decide) hk_f31 rfl rfl dX7_steps_35 ?_
        refine lv_iload_n hx hb dX7_steps_38 rfl (lv_at hl 2 rfl) ?_
        obtain ⟨h10, hB⟩ := gd_at hB
        refine r_iald hx hb hK hS h10 dX7_steps_39 ?_
        refine lv_icmp_eq (tgt := 111) hx hb dX7_steps_40 (by decide) (fun c11 => ?_) (fun c11 => ?_)
        · have hB := it_t c11 hB
          obtain ⟨x12, ex12⟩ : ∃ y : Int32, y = x2 + (1 : Int32) := ⟨_, rfl⟩
          have hB := vl_at ex12 hB
          refine lv_iinc (v := x12) (lv' := [(6, .int x12), (0, .ref (ad 45)), (1, .int a1), (2, .int a2), (3, .int a3), (4, .long x1)]) hx hb dX7_steps_111 hl (k := 5) rfl (by rw [ex12]; rfl) (by decide) rfl (fun ls hl => ?_)
          refine lv_goto (tgt := 6) hx hb dX7_steps_114 (by decide) ?_
          exact hI6 _ (Option.some.inj hB).symm H locs ls hS (lv_sub hl [1, 2, 3, 4, 5, 0] rfl)
        · have hB := it_f c11 hB
          refine lv_lconst (v := (0 : Int64)) hx hb dX7_steps_43 (by decide) ?_
          refine lv_lstore (lv' := [(7, .long (0 : Int64)), (0, .ref (ad 45)), (1, .int a1), (2, .int a2), (3, .int a3), (4, .long x1), (6, .int x2)]) hx hb dX7_steps_44 hl (by decide) rfl (fun ls hl => ?_)
          refine lv_iconst (v := (0 : Int32)) hx hb dX7_steps_46 (by decide) ?_
          refine lv_istore (lv' := [(9, .int (0 : Int32)), (7, .long (0 : Int64)), (0, .ref (ad 45)), (1, .int a1), (2, .int a2), (3, .int a3), (4, .long x1), (6, .int x2)]) hx hb dX7_steps_47 hl (by decide) rfl (fun ls hl => ?_)
          obtain ⟨t24, ht24, hB⟩ := bi_at hB
          refine wl_W (body := fun a => f_X7_steps_B49 a1 a3 t6 a.1 a.2) (Hd := fun a : Int64 × Int32 => ∀ (H : Heap) (locs : List Loc) (ls : Array Slot), ST dC dI ad cA s t6.2 H locs → lv_has ls 10 [(0, .ref (ad 45)), (1, .int a1), (2, .int a2), (3, .int a3), (4, .long x1), (6, .int x2), (7, .long a.1), (9, .int a.2)] → W p l e (RM 3 69) s m args below meth c H locs 0 0 Q (F0 m 49 ls [])) (Ex := fun b : Int64 => ∀ (H : Heap) (locs : List Loc) (ls : Array Slot), ST dC dI ad cA s t6.2 H locs → lv_has ls 10 [(0, .ref (ad 45)), (1, .int a1), (2, .int a2), (3, .int a3), (4, .long x1), (6, .int x2), (7, .long b)] → W p l e (RM 3 69) s m args below meth c H locs 0 0 Q (F0 m 97 ls [])) ?_ FU _ t24 ht24 ?_ H locs ls hS (lv_sub hl [2, 3, 4, 5, 6, 7, 1, 0] rfl)
          · intro a r49 hB hI49 hE49 H locs ls hS hl
            obtain ⟨x13, x14⟩ := a
            have hB : f_X7_steps_B49 a1 a3 t6 x13 x14 = some r49 := hB
            unfold f_X7_steps_B49 at hB
            have hS : ST dC dI ad cA s t6.2 H locs := hS
            have hl : lv_has ls 10 [(0, .ref (ad 45)), (1, .int a1), (2, .int a2), (3, .int a3), (4, .long x1), (6, .int x2), (7, .long x13), (9, .int x14)] := hl
            show W p l e (RM 3 69) s m args below meth c H locs 0 0 Q (F0 m 49 ls [])
            refine lv_iload hx hb dX7_steps_49 (lv_at hl 7 rfl) ?_
            refine lv_aload_n hx hb dX7_steps_51 rfl (lv_at hl 0 rfl) ?_
            refine r_get (v := .int (gI t6.2 17)) (C := RX7) (T := TX7) (N := 19) hx hb hts hin_X7 hown hK hS (by decide) e_45 rfl 1 (by decide) hk_f13 rfl rfl dX7_steps_52 ?_
            refine lv_icmp_ge (tgt := 97) hx hb dX7_steps_55 (by decide) (fun c15 => ?_) (fun c15 => ?_)
            · have hB := it_t c15 hB
              exact hE49 _ (Option.some.inj hB).symm H locs ls hS (lv_sub hl [0, 1, 2, 3, 4, 5, 6] rfl)
            · have hB := it_f c15 hB
              refine lv_lload hx hb dX7_steps_58 (lv_at hl 6 rfl) ?_
              refine lv_aload_n hx hb dX7_steps_60 rfl (lv_at hl 0 rfl) ?_
              refine r_get (v := .ref (ad 51)) (C := RX7) (T := TX7) (N := 19) hx hb hts hin_X7 hown hK hS (by decide) e_45 rfl 14 (by decide) hk_f31 rfl rfl dX7_steps_61 ?_
              refine lv_iload hx hb dX7_steps_64 (lv_at hl 7 rfl) ?_
              obtain ⟨h16, hB⟩ := gd_at hB
              refine r_iald hx hb hK hS h16 dX7_steps_66 ?_
              refine lv_aload_n hx hb dX7_steps_67 rfl (lv_at hl 0 rfl) ?_
              refine r_get (v := .ref (ad 51)) (C := RX7) (T := TX7) (N := 19) hx hb hts hin_X7 hown hK hS (by decide) e_45 rfl 14 (by decide) hk_f31 rfl rfl dX7_steps_68 ?_
              refine lv_iload_n hx hb dX7_steps_71 rfl (lv_at hl 1 rfl) ?_
              obtain ⟨h17, hB⟩ := gd_at hB
              refine r_iald hx hb hK hS h17 dX7_steps_72 ?_
              refine lv_icmp_ne (tgt := 87) hx hb dX7_steps_73 (by decide) (fun c18 => ?_) (fun c18 => ?_)
              · have hB := it_f c18 hB
                refine lv_lconst (v := (0 : Int64)) hx hb dX7_steps_87 (by decide) ?_
                refine lv_ladd hx hb dX7_steps_88 ?_
                refine lv_topl (fun x19 ex19 => ?_)
                have hB := vl_at ex19 hB
                refine lv_lstore (lv' := [(7, .long x19), (0, .ref (ad 45)), (1, .int a1), (2, .int a2), (3, .int a3), (4, .long x1), (6, .int x2), (9, .int x14)]) hx hb dX7_steps_89 hl (by decide) rfl (fun ls hl => ?_)
                obtain ⟨x20, ex20⟩ : ∃ y : Int32, y = x14 + (1 : Int32) := ⟨_, rfl⟩
                have hB := vl_at ex20 hB
                refine lv_iinc (v := x20) (lv' := [(9, .int x20), (7, .long x19), (0, .ref (ad 45)), (1, .int a1), (2, .int a2), (3, .int a3), (4, .long x1), (6, .int x2)]) hx hb dX7_steps_91 hl (k := 7) rfl (by rw [ex20]; rfl) (by decide) rfl (fun ls hl => ?_)
                refine lv_goto (tgt := 49) hx hb dX7_steps_94 (by decide) ?_
                exact hI49 _ (Option.some.inj hB).symm H locs ls hS (lv_sub hl [2, 3, 4, 5, 6, 7, 1, 0] rfl)
              · have hB := it_t c18 hB
                refine lv_aload_n hx hb dX7_steps_76 rfl (lv_at hl 0 rfl) ?_
                refine lv_iload hx hb dX7_steps_77 (lv_at hl 7 rfl) ?_
                refine lv_iload_n hx hb dX7_steps_79 rfl (lv_at hl 3 rfl) ?_
                obtain ⟨t21, ht21, hB⟩ := bi_at hB
                refine r_ViP ⟨hx, hb, hml, hown, hts⟩ (c_X7_degree l dC dI ad cA t6.2 x14 a3 t21 ht21) (cwV 2 hts gX7_steps_X7_degree rfl rfl rfl (by decide +kernel) ⟨Nat.le_of_ble_eq_true rfl, Nat.le_of_ble_eq_true rfl⟩) hK hN hS (by decide) e_45 rfl rfl hl.1 rfl (Nat.le_of_ble_eq_true rfl) dX7_steps_80 ⟨Nat.le_refl _, Nat.le_refl _⟩ (fun H locs hS => ?_)
                refine lv_i2l hx hb dX7_steps_83 rfl ?_
                refine lv_goto (tgt := 88) hx hb dX7_steps_84 (by decide) ?_
                refine lv_ladd hx hb dX7_steps_88 ?_
                refine lv_topl (fun x22 ex22 => ?_)
                have hB := vl_at ex22 hB
                refine lv_lstore (lv' := [(7, .long x22), (0, .ref (ad 45)), (1, .int a1), (2, .int a2), (3, .int a3), (4, .long x1), (6, .int x2), (9, .int x14)]) hx hb dX7_steps_89 hl (by decide) rfl (fun ls hl => ?_)
                obtain ⟨x23, ex23⟩ : ∃ y : Int32, y = x14 + (1 : Int32) := ⟨_, rfl⟩
                have hB := vl_at ex23 hB
                refine lv_iinc (v := x23) (lv' := [(9, .int x23), (7, .long x22), (0, .ref (ad 45)), (1, .int a1), (2, .int a2), (3, .int a3), (4, .long x1), (6, .int x2)]) hx hb dX7_steps_91 hl (k := 7) rfl (by rw [ex23]; rfl) (by decide) rfl (fun ls hl => ?_)
                refine lv_goto (tgt := 49) hx hb dX7_steps_94 (by decide) ?_
                exact hI49 _ (Option.some.inj hB).symm H locs ls hS (lv_sub hl [2, 3, 4, 5, 6, 7, 1, 0] rfl)
          · skip
            intro H locs ls hS hl
            have hS : ST dC dI ad cA s t6.2 H locs := hS
            have hl : lv_has ls 10 [(0, .ref (ad 45)), (1, .int a1), (2, .int a2), (3, .int a3), (4, .long x1), (6, .int x2), (7, .long t24)] := hl
            show W p l e (RM 3 69) s m args below meth c H locs 0 0 Q (F0 m 97 ls [])
            refine lv_lload hx hb dX7_steps_97 (lv_at hl 4 rfl) ?_
            refine lv_lload hx hb dX7_steps_99 (lv_at hl 6 rfl) ?_
            refine lv_aload_n hx hb dX7_steps_101 rfl (lv_at hl 0 rfl) ?_
            refine lv_iload hx hb dX7_steps_102 (lv_at hl 5 rfl) ?_
            obtain ⟨t25, ht25, hB⟩ := bi_at hB
            refine r_VlP ⟨hx, hb, hml, hown, hts⟩ (c_X7_weight l dC dI ad cA t6.2 x2 t25 ht25) (cwV 1 hts gX7_steps_X7_weight rfl rfl rfl (by decide +kernel) ⟨Nat.le_of_ble_eq_true rfl, Nat.le_of_ble_eq_true rfl⟩) hK hN hS (by decide) e_45 rfl rfl hl.1 rfl (Nat.le_of_ble_eq_true rfl) dX7_steps_104 ⟨Nat.le_refl _, Nat.le_refl _⟩ (fun H locs hS => ?_)
            refine lv_lmul hx hb dX7_steps_107 ?_
            refine lv_ladd hx hb dX7_steps_108 ?_
            refine lv_topl (fun x26 ex26 => ?_)
            have hB := vl_at ex26 hB
            refine lv_lstore (lv' := [(4, .long x26), (0, .ref (ad 45)), (1, .int a1), (2, .int a2), (3, .int a3), (6, .int x2), (7, .long t24)]) hx hb dX7_steps_109 hl (by decide) rfl (fun ls hl => ?_)
            obtain ⟨x27, ex27⟩ : ∃ y : Int32, y = x2 + (1 : Int32) := ⟨_, rfl⟩
            have hB := vl_at ex27 hB
            refine lv_iinc (v := x27) (lv' := [(6, .int x27), (4, .long x26), (0, .ref (ad 45)), (1, .int a1), (2, .int a2), (3, .int a3), (7, .long t24)]) hx hb dX7_steps_111 hl (k := 5) rfl (by rw [ex27]; rfl) (by decide) rfl (fun ls hl => ?_)
            refine lv_goto (tgt := 6) hx hb dX7_steps_114 (by decide) ?_
            exact hI6 _ (Option.some.inj hB).symm H locs ls hS (lv_sub hl [2, 3, 4, 5, 1, 0] rfl)
  · skip
    intro H locs ls hS hl
    have hS : ST dC dI ad cA s t28.2 H locs := hS
    have hl : lv_has ls 10 [(4, .long t28.1)] := hl
    show W p l e (RM 3 69) s m args below meth c H locs 0 0 Q (F0 m 117 ls [])
    refine lv_lload hx hb dX7_steps_117 (lv_at hl 0 rfl) ?_
    subst hQ
    exact r_lret hx hb hr hK hS hB hlocks dX7_steps_119
