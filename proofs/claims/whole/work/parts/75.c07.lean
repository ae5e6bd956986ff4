set_option maxHeartbeats 4000000 in
set_option maxRecDepth 100000 in
theorem c_X7_isEnd (l : Launch) (dC : Nat → ClassId) (dI : Nat → Nat → Nat) (ad : Nat → Nat) (cA : Nat → ClassId) (σ : Sg)  (z : Int32) (hB : f_X7_isEnd σ = some z) : Ki l dC dI ad cA yX7_isEnd wsX7_isEnd 0 0 [.ref (ad 45)] σ (z, σ) := by
  refine mk_i (cc := cX7_isEnd) (maxL := 1) (ret := (some .boolean)) (by decide) rfl (Nat.le_of_ble_eq_true rfl) ?_
  intro p e s m args below meth c Q H locs ls ⟨hx, hb, hr, hml, hown, hts, hlocks, hK, hN⟩ hQ hS hl
  have hown : s.vm.findClass RX7 = some m.cls := hown
  have hl : lv_has ls 1 [(0, .ref (ad 45))] := hl
  have hk_f58 := hts (.fieldLink RX7 58 "ChanceNetsModel" "first" "I") (by decide +kernel)
  have hin_X7 : ∀ w ∈ u_ws RX7 TX7 19, w ∈ wsX7_isEnd := by decide +kernel
  have hk_f52 := hts (.fieldLink RX7 52 "ChanceNetsModel" "length" "I") (by decide +kernel)
  unfold f_X7_isEnd at hB
  refine lv_aload_n hx hb dX7_isEnd_0 rfl (lv_at hl 0 rfl) ?_
  refine r_get (v := .int (gI σ 21)) (C := RX7) (T := TX7) (N := 19) hx hb hts hin_X7 hown hK hS (by decide) e_45 rfl 8 (by decide) hk_f58 rfl rfl dX7_isEnd_1 ?_
  refine lv_aload_n hx hb dX7_isEnd_4 rfl (lv_at hl 0 rfl) ?_
  refine r_get (v := .int (gI σ 19)) (C := RX7) (T := TX7) (N := 19) hx hb hts hin_X7 hown hK hS (by decide) e_45 rfl 5 (by decide) hk_f52 rfl rfl dX7_isEnd_5 ?_
  refine lv_icmp_ne (tgt := 15) hx hb dX7_isEnd_8 (by decide) (fun c1 => ?_) (fun c1 => ?_)
  · have hB := it_f c1 hB
    refine lv_iconst (v := (0 : Int32)) hx hb dX7_isEnd_15 (by decide) ?_
    subst hQ
    exact r_zret hx hb hr hK hS rfl (pz hB) hlocks dX7_isEnd_16
  · have hB := it_t c1 hB
    refine lv_iconst (v := (1 : Int32)) hx hb dX7_isEnd_11 (by decide) ?_
    refine lv_goto (tgt := 16) hx hb dX7_isEnd_12 (by decide) ?_
    subst hQ
    exact r_zret hx hb hr hK hS rfl (pz hB) hlocks dX7_isEnd_16
set_option maxHeartbeats 4000000 in
set_option maxRecDepth 100000 in
theorem c_X7_reads (l : Launch) (dC : Nat → ClassId) (dI : Nat → Nat → Nat) (ad : Nat → Nat) (cA : Nat → ClassId) (σ : Sg) (a1 : Int32) (a2 : Int32) (a3 : Int32) (z : Int32 × Sg) (hB : f_X7_reads σ a1 a2 a3 = some z) : Ki l dC dI ad cA yX7_reads wsX7_reads 2 45 [.ref (ad 45), .int a1, .int a2, .int a3] σ z := by
  refine mk_i (cc := cX7_reads) (maxL := 4) (ret := (some .boolean)) (by decide) rfl (Nat.le_of_ble_eq_true rfl) ?_
  intro p e s m args below meth c Q H locs ls ⟨hx, hb, hr, hml, hown, hts, hlocks, hK, hN⟩ hQ hS hl
  have hown : s.vm.findClass RX7 = some m.cls := hown
  have hl : lv_has ls 4 [(0, .ref (ad 45)), (1, .int a1), (2, .int a2), (3, .int a3)] := hl
  have hk_f28 := hts (.fieldLink RX7 28 "ChanceNetsModel" "numbers" "[I") (by decide +kernel)
  have hin_X7 : ∀ w ∈ u_ws RX7 TX7 19, w ∈ wsX7_reads := by decide +kernel
  have hk_f61 := hts (.fieldLink RX7 61 "ChanceNetsModel" "number" "I") (by decide +kernel)
  have hk_f64 := hts (.fieldLink RX7 64 "ChanceNetsModel" "letter" "I") (by decide +kernel)
  unfold f_X7_reads at hB
  refine lv_aload_n hx hb dX7_reads_0 rfl (lv_at hl 0 rfl) ?_
  obtain ⟨t1, ht1, hB⟩ := bi_at hB
  refine r_Vv ⟨hx, hb, hml, hown, hts⟩ (c_X7_next l dC dI ad cA σ t1 ht1) (cwV 0 hts gX7_reads_X7_next rfl rfl rfl (by decide +kernel) ⟨Nat.le_of_ble_eq_true rfl, Nat.le_of_ble_eq_true rfl⟩) hK hN hS (by decide) e_45 rfl rfl hl.1 rfl (Nat.le_of_ble_eq_true rfl) dX7_reads_1 ⟨Nat.le_refl _, Nat.le_refl _⟩ (fun H locs hS => ?_)
  refine lv_aload_n hx hb dX7_reads_4 rfl (lv_at hl 0 rfl) ?_
  refine r_get (v := .ref (ad 50)) (C := RX7) (T := TX7) (N := 19) hx hb hts hin_X7 hown hK hS (by decide) e_45 rfl 13 (by decide) hk_f28 rfl rfl dX7_reads_5 ?_
  refine lv_iload_n hx hb dX7_reads_8 rfl (lv_at hl 1 rfl) ?_
  refine lv_aload_n hx hb dX7_reads_9 rfl (lv_at hl 0 rfl) ?_
  refine r_get (v := .int (gI t1 24)) (C := RX7) (T := TX7) (N := 19) hx hb hts hin_X7 hown hK hS (by decide) e_45 rfl 11 (by decide) hk_f61 rfl rfl dX7_reads_10 ?_
  refine lv_topi (fun x2 ex2 => ?_)
  have hB := vl_at ex2 hB
  obtain ⟨h3, hB⟩ := gd_at hB
  refine r_iast hx hb hK hS h3 dX7_reads_13 (fun H locs hS => ?_)
  obtain ⟨σ4, eσ4⟩ : ∃ t : Sg, t = pA t1 50 a1.toNatClampNeg x2 := ⟨_, rfl⟩
  rw [← eσ4] at hS
  have hB := vl_at eσ4 hB
  refine lv_aload_n hx hb dX7_reads_14 rfl (lv_at hl 0 rfl) ?_
  obtain ⟨t5, ht5, hB⟩ := bi_at hB
  refine r_ViP ⟨hx, hb, hml, hown, hts⟩ (c_X7_isEnd l dC dI ad cA σ4 t5 ht5) (cwV 0 hts gX7_reads_X7_isEnd rfl rfl rfl (by decide +kernel) ⟨Nat.le_of_ble_eq_true rfl, Nat.le_of_ble_eq_true rfl⟩) hK hN hS (by decide) e_45 rfl rfl hl.1 rfl (Nat.le_of_ble_eq_true rfl) dX7_reads_15 ⟨Nat.le_refl _, Nat.le_refl _⟩ (fun H locs hS => ?_)
  refine lv_if_ne (tgt := 49) hx hb dX7_reads_18 (by decide) (fun c6 => ?_) (fun c6 => ?_)
  · have hB := it_f c6 hB
    refine lv_iconst (v := (0 : Int32)) hx hb dX7_reads_49 (by decide) ?_
    subst hQ
    exact r_zret hx hb hr hK hS rfl hB hlocks dX7_reads_50
  · have hB := it_t c6 hB
    refine lv_aload_n hx hb dX7_reads_21 rfl (lv_at hl 0 rfl) ?_
    refine r_get (v := .int (gI σ4 23)) (C := RX7) (T := TX7) (N := 19) hx hb hts hin_X7 hown hK hS (by decide) e_45 rfl 10 (by decide) hk_f64 rfl rfl dX7_reads_22 ?_
    refine lv_bipush (v := (48 : Int32)) hx hb dX7_reads_25 (by decide) ?_
    refine lv_icmp_ne (tgt := 49) hx hb dX7_reads_27 (by decide) (fun c7 => ?_) (fun c7 => ?_)
    · have hB := it_f c7 hB
      refine lv_iconst (v := (0 : Int32)) hx hb dX7_reads_49 (by decide) ?_
      subst hQ
      exact r_zret hx hb hr hK hS rfl hB hlocks dX7_reads_50
    · have hB := it_t c7 hB
      refine lv_aload_n hx hb dX7_reads_30 rfl (lv_at hl 0 rfl) ?_
      refine r_get (v := .int (gI σ4 24)) (C := RX7) (T := TX7) (N := 19) hx hb hts hin_X7 hown hK hS (by decide) e_45 rfl 11 (by decide) hk_f61 rfl rfl dX7_reads_31 ?_
      refine lv_i2l hx hb dX7_reads_34 rfl ?_
      refine lv_iload_n hx hb dX7_reads_35 rfl (lv_at hl 2 rfl) ?_
      refine lv_i2l hx hb dX7_reads_36 rfl ?_
      refine lv_iload_n hx hb dX7_reads_37 rfl (lv_at hl 3 rfl) ?_
      refine lv_i2l hx hb dX7_reads_38 rfl ?_
      obtain ⟨t8, ht8, hB⟩ := bi_at hB
      refine r_SiP ⟨hx, hb, hml, hown, hts⟩ (c_X7_in l dC dI ad cA σ4 ((gI σ4 24).toInt64) a2.toInt64 a3.toInt64 t8 ht8) (va_cwS 3 hts gX7_reads_X7_in rfl rfl rfl (by decide +kernel) ⟨Nat.le_of_ble_eq_true rfl, Nat.le_of_ble_eq_true rfl⟩) hK hN hS rfl hl.1 rfl (Nat.le_of_ble_eq_true rfl) dX7_reads_39 ⟨Nat.le_refl _, Nat.le_refl _⟩ (fun H locs hS => ?_)
      refine lv_if_eq (tgt := 49) hx hb dX7_reads_42 (by decide) (fun c9 => ?_) (fun c9 => ?_)
      · have hB := it_t c9 hB
        refine lv_iconst (v := (0 : Int32)) hx hb dX7_reads_49 (by decide) ?_
        subst hQ
        exact r_zret hx hb hr hK hS rfl hB hlocks dX7_reads_50
      · have hB := it_f c9 hB
        refine lv_iconst (v := (1 : Int32)) hx hb dX7_reads_45 (by decide) ?_
        refine lv_goto (tgt := 50) hx hb dX7_reads_46 (by decide) ?_
        subst hQ
        exact r_zret hx hb hr hK hS rfl hB hlocks dX7_reads_50
set_option maxHeartbeats 4000000 in
set_option maxRecDepth 100000 in
theorem c_X7_isItem (l : Launch) (dC : Nat → ClassId) (dI : Nat → Nat → Nat) (ad : Nat → Nat) (cA : Nat → ClassId) (σ : Sg) (a1 : Int32) (z : Int32 × Sg) (hB : f_X7_isItem σ a1 = some z) : Ki l dC dI ad cA yX7_isItem wsX7_isItem 3 68 [.ref (ad 45), .int a1] σ z := by
  refine mk_i (cc := cX7_isItem) (maxL := 2) (ret := (some .boolean)) (by decide) rfl (Nat.le_of_ble_eq_true rfl) ?_
  intro p e s m args below meth c Q H locs ls ⟨hx, hb, hr, hml, hown, hts, hlocks, hK, hN⟩ hQ hS hl
  have hown : s.vm.findClass RX7 = some m.cls := hown
  have hl : lv_has ls 2 [(0, .ref (ad 45)), (1, .int a1)] := hl
  have hk_f64 := hts (.fieldLink RX7 64 "ChanceNetsModel" "letter" "I") (by decide +kernel)
  have hin_X7 : ∀ w ∈ u_ws RX7 TX7 19, w ∈ wsX7_isItem := by decide +kernel
  have hk_f7 := hts (.fieldLink RX7 7 "ChanceNetsModel" "rows" "[I") (by decide +kernel)
  have hk_f82 := hts (.fieldLink RX7 82 "ChanceNetsModel" "toldNodes" "I") (by decide +kernel)
  have hk_f28 := hts (.fieldLink RX7 28 "ChanceNetsModel" "numbers" "[I") (by decide +kernel)
  unfold f_X7_isItem at hB
  refine lv_aload_n hx hb dX7_isItem_0 rfl (lv_at hl 0 rfl) ?_
  refine r_get (v := .int (gI σ 23)) (C := RX7) (T := TX7) (N := 19) hx hb hts hin_X7 hown hK hS (by decide) e_45 rfl 10 (by decide) hk_f64 rfl rfl dX7_isItem_1 ?_
  refine lv_bipush (v := (110 : Int32)) hx hb dX7_isItem_4 (by decide) ?_
  have hJ170 : ∀ (σ1 : Sg) (H : Heap) (locs : List Loc) (ls : Array Slot), f_X7_isItem_J170 σ1 = some z → ST dC dI ad cA s σ1 H locs → lv_has ls 2 [(0, .ref (ad 45))] → W p l e (RM 3 68) s m args below meth c H locs 0 0 Q (F0 m 170 ls []) := by
    intro σ1 H locs ls hB hS hl
    unfold f_X7_isItem_J170 at hB
    refine lv_aload_n hx hb dX7_isItem_170 rfl (lv_at hl 0 rfl) ?_
    obtain ⟨t2, ht2, hB⟩ := bi_at hB
    refine r_Vv ⟨hx, hb, hml, hown, hts⟩ (c_X7_next l dC dI ad cA σ1 t2 ht2) (cwV 0 hts gX7_isItem_X7_next rfl rfl rfl (by decide +kernel) ⟨Nat.le_of_ble_eq_true rfl, Nat.le_of_ble_eq_true rfl⟩) hK hN hS (by decide) e_45 rfl rfl hl.1 rfl (Nat.le_of_ble_eq_true rfl) dX7_isItem_171 ⟨Nat.le_refl _, Nat.le_refl _⟩ (fun H locs hS => ?_)
    refine lv_aload_n hx hb dX7_isItem_174 rfl (lv_at hl 0 rfl) ?_
    obtain ⟨t3, ht3, hB⟩ := bi_at hB
    refine r_ViP ⟨hx, hb, hml, hown, hts⟩ (c_X7_isEnd l dC dI ad cA t2 t3 ht3) (cwV 0 hts gX7_isItem_X7_isEnd rfl rfl rfl (by decide +kernel) ⟨Nat.le_of_ble_eq_true rfl, Nat.le_of_ble_eq_true rfl⟩) hK hN hS (by decide) e_45 rfl rfl hl.1 rfl (Nat.le_of_ble_eq_true rfl) dX7_isItem_175 ⟨Nat.le_refl _, Nat.le_refl _⟩ (fun H locs hS => ?_)
    refine lv_if_ne (tgt := 194) hx hb dX7_isItem_178 (by decide) (fun c4 => ?_) (fun c4 => ?_)
    · have hB := it_f c4 hB
      refine lv_iconst (v := (0 : Int32)) hx hb dX7_isItem_194 (by decide) ?_
      subst hQ
      exact r_zret hx hb hr hK hS rfl hB hlocks dX7_isItem_195
    · have hB := it_t c4 hB
      refine lv_aload_n hx hb dX7_isItem_181 rfl (lv_at hl 0 rfl) ?_
      refine r_get (v := .int (gI t2 23)) (C := RX7) (T := TX7) (N := 19) hx hb hts hin_X7 hown hK hS (by decide) e_45 rfl 10 (by decide) hk_f64 rfl rfl dX7_isItem_182 ?_
      refine lv_bipush (v := (59 : Int32)) hx hb dX7_isItem_185 (by decide) ?_
      refine lv_icmp_ne (tgt := 194) hx hb dX7_isItem_187 (by decide) (fun c5 => ?_) (fun c5 => ?_)
      · have hB := it_f c5 hB
        refine lv_iconst (v := (0 : Int32)) hx hb dX7_isItem_194 (by decide) ?_
        subst hQ
        exact r_zret hx hb hr hK hS rfl hB hlocks dX7_isItem_195
      · have hB := it_t c5 hB
        refine lv_iconst (v := (1 : Int32)) hx hb dX7_isItem_190 (by decide) ?_
        refine lv_goto (tgt := 195) hx hb dX7_isItem_191 (by decide) ?_
        subst hQ
        exact r_zret hx hb hr hK hS rfl hB hlocks dX7_isItem_195
  refine lv_icmp_ne (tgt := 39) hx hb dX7_isItem_6 (by decide) (fun c6 => ?_) (fun c6 => ?_)
  · have hB := it_f c6 hB
    refine lv_aload_n hx hb dX7_isItem_39 rfl (lv_at hl 0 rfl) ?_
    refine r_get (v := .int (gI σ 23)) (C := RX7) (T := TX7) (N := 19) hx hb hts hin_X7 hown hK hS (by decide) e_45 rfl 10 (by decide) hk_f64 rfl rfl dX7_isItem_40 ?_
    refine lv_bipush (v := (101 : Int32)) hx hb dX7_isItem_43 (by decide) ?_
    refine lv_icmp_ne (tgt := 91) hx hb dX7_isItem_45 (by decide) (fun c7 => ?_) (fun c7 => ?_)
    · have hB := it_f c7 hB
      refine lv_iconst (v := (0 : Int32)) hx hb dX7_isItem_91 (by decide) ?_
      subst hQ
      exact r_zret hx hb hr hK hS rfl hB hlocks dX7_isItem_92
    · have hB := it_t c7 hB
      refine lv_aload_n hx hb dX7_isItem_48 rfl (lv_at hl 0 rfl) ?_
      refine r_get (v := .ref (ad 46)) (C := RX7) (T := TX7) (N := 19) hx hb hts hin_X7 hown hK hS (by decide) e_45 rfl 0 (by decide) hk_f7 rfl rfl dX7_isItem_49 ?_
      refine lv_sipush (v := (465 : Int32)) hx hb dX7_isItem_52 (by decide) ?_
      obtain ⟨h8, hB⟩ := gd_at hB
      refine r_iald hx hb hK hS h8 dX7_isItem_55 ?_
      refine lv_bipush (v := (10 : Int32)) hx hb dX7_isItem_56 (by decide) ?_
      refine lv_icmp_eq (tgt := 91) hx hb dX7_isItem_58 (by decide) (fun c9 => ?_) (fun c9 => ?_)
      · have hB := it_t c9 hB
        refine lv_iconst (v := (0 : Int32)) hx hb dX7_isItem_91 (by decide) ?_
        subst hQ
        exact r_zret hx hb hr hK hS rfl hB hlocks dX7_isItem_92
      · have hB := it_f c9 hB
        refine lv_aload_n hx hb dX7_isItem_61 rfl (lv_at hl 0 rfl) ?_
        refine lv_iconst (v := (0 : Int32)) hx hb dX7_isItem_62 (by decide) ?_
        refine lv_iconst (v := (0 : Int32)) hx hb dX7_isItem_63 (by decide) ?_
        refine lv_aload_n hx hb dX7_isItem_64 rfl (lv_at hl 0 rfl) ?_
        refine r_get (v := .int (gI σ 25)) (C := RX7) (T := TX7) (N := 19) hx hb hts hin_X7 hown hK hS (by decide) e_45 rfl 12 (by decide) hk_f82 rfl rfl dX7_isItem_65 ?_
        refine lv_iconst (v := (1 : Int32)) hx hb dX7_isItem_68 (by decide) ?_
        refine lv_isub hx hb dX7_isItem_69 ?_
        obtain ⟨t10, ht10, hB⟩ := bi_at hB
        refine r_Vi ⟨hx, hb, hml, hown, hts⟩ (c_X7_reads l dC dI ad cA σ (0 : Int32) (0 : Int32) ((gI σ 25) - (1 : Int32)) t10 ht10) (cwV 3 hts gX7_isItem_X7_reads rfl rfl rfl (by decide +kernel) ⟨Nat.le_of_ble_eq_true rfl, Nat.le_of_ble_eq_true rfl⟩) hK hN hS (by decide) e_45 rfl rfl hl.1 rfl (Nat.le_of_ble_eq_true rfl) dX7_isItem_70 ⟨Nat.le_refl _, Nat.le_refl _⟩ (fun H locs hS => ?_)
        refine lv_if_eq (tgt := 91) hx hb dX7_isItem_73 (by decide) (fun c11 => ?_) (fun c11 => ?_)
        · have hB := it_t c11 hB
          refine lv_iconst (v := (0 : Int32)) hx hb dX7_isItem_91 (by decide) ?_
          subst hQ
          exact r_zret hx hb hr hK hS rfl hB hlocks dX7_isItem_92
        · have hB := it_f c11 hB
          refine lv_aload_n hx hb dX7_isItem_76 rfl (lv_at hl 0 rfl) ?_
          refine lv_iconst (v := (1 : Int32)) hx hb dX7_isItem_77 (by decide) ?_
          refine lv_iconst (v := (0 : Int32)) hx hb dX7_isItem_78 (by decide) ?_
          refine lv_aload_n hx hb dX7_isItem_79 rfl (lv_at hl 0 rfl) ?_
          refine r_get (v := .int (gI t10.2 25)) (C := RX7) (T := TX7) (N := 19) hx hb hts hin_X7 hown hK hS (by decide) e_45 rfl 12 (by decide) hk_f82 rfl rfl dX7_isItem_80 ?_
          refine lv_iconst (v := (1 : Int32)) hx hb dX7_isItem_83 (by decide) ?_
          refine lv_isub hx hb dX7_isItem_84 ?_
          obtain ⟨t12, ht12, hB⟩ := bi_at hB
          refine r_Vi ⟨hx, hb, hml, hown, hts⟩ (c_X7_reads l dC dI ad cA t10.2 (1 : Int32) (0 : Int32) ((gI t10.2 25) - (1 : Int32)) t12 ht12) (cwV 3 hts gX7_isItem_X7_reads rfl rfl rfl (by decide +kernel) ⟨Nat.le_of_ble_eq_true rfl, Nat.le_of_ble_eq_true rfl⟩) hK hN hS (by decide) e_45 rfl rfl hl.1 rfl (Nat.le_of_ble_eq_true rfl) dX7_isItem_85 ⟨Nat.le_refl _, Nat.le_refl _⟩ (fun H locs hS => ?_)
          refine lv_if_ne (tgt := 93) hx hb dX7_isItem_88 (by decide) (fun c13 => ?_) (fun c13 => ?_)
          · have hB := it_f c13 hB
            refine lv_aload_n hx hb dX7_isItem_93 rfl (lv_at hl 0 rfl) ?_
            refine r_get (v := .ref (ad 50)) (C := RX7) (T := TX7) (N := 19) hx hb hts hin_X7 hown hK hS (by decide) e_45 rfl 13 (by decide) hk_f28 rfl rfl dX7_isItem_94 ?_
            refine lv_iconst (v := (0 : Int32)) hx hb dX7_isItem_97 (by decide) ?_
            obtain ⟨h14, hB⟩ := gd_at hB
            refine r_iald hx hb hK hS h14 dX7_isItem_98 ?_
            refine lv_aload_n hx hb dX7_isItem_99 rfl (lv_at hl 0 rfl) ?_
            refine r_get (v := .ref (ad 50)) (C := RX7) (T := TX7) (N := 19) hx hb hts hin_X7 hown hK hS (by decide) e_45 rfl 13 (by decide) hk_f28 rfl rfl dX7_isItem_100 ?_
            refine lv_iconst (v := (1 : Int32)) hx hb dX7_isItem_103 (by decide) ?_
            obtain ⟨h15, hB⟩ := gd_at hB
            refine r_iald hx hb hK hS h15 dX7_isItem_104 ?_
            refine lv_icmp_eq (tgt := 143) hx hb dX7_isItem_105 (by decide) (fun c16 => ?_) (fun c16 => ?_)
            · have hB := it_t c16 hB
              refine lv_iconst (v := (0 : Int32)) hx hb dX7_isItem_143 (by decide) ?_
              subst hQ
              exact r_zret hx hb hr hK hS rfl hB hlocks dX7_isItem_144
            · have hB := it_f c16 hB
              refine lv_aload_n hx hb dX7_isItem_108 rfl (lv_at hl 0 rfl) ?_
              refine lv_sipush (v := (465 : Int32)) hx hb dX7_isItem_109 (by decide) ?_
              refine lv_aload_n hx hb dX7_isItem_112 rfl (lv_at hl 0 rfl) ?_
              refine r_get (v := .ref (ad 50)) (C := RX7) (T := TX7) (N := 19) hx hb hts hin_X7 hown hK hS (by decide) e_45 rfl 13 (by decide) hk_f28 rfl rfl dX7_isItem_113 ?_
              refine lv_iconst (v := (0 : Int32)) hx hb dX7_isItem_116 (by decide) ?_
              obtain ⟨h17, hB⟩ := gd_at hB
              refine r_iald hx hb hK hS h17 dX7_isItem_117 ?_
              refine lv_aload_n hx hb dX7_isItem_118 rfl (lv_at hl 0 rfl) ?_
              refine r_get (v := .ref (ad 50)) (C := RX7) (T := TX7) (N := 19) hx hb hts hin_X7 hown hK hS (by decide) e_45 rfl 13 (by decide) hk_f28 rfl rfl dX7_isItem_119 ?_
              refine lv_iconst (v := (1 : Int32)) hx hb dX7_isItem_122 (by decide) ?_
              obtain ⟨h18, hB⟩ := gd_at hB
              refine r_iald hx hb hK hS h18 dX7_isItem_123 ?_
              obtain ⟨t19, ht19, hB⟩ := bi_at hB
              refine r_ViP ⟨hx, hb, hml, hown, hts⟩ (c_X7_lineOf l dC dI ad cA t12.2 (465 : Int32) (gA t12.2 50 (0 : Int32).toNatClampNeg) (gA t12.2 50 (1 : Int32).toNatClampNeg) t19 ht19) (cwV 3 hts gX7_isItem_X7_lineOf rfl rfl rfl (by decide +kernel) ⟨Nat.le_of_ble_eq_true rfl, Nat.le_of_ble_eq_true rfl⟩) hK hN hS (by decide) e_45 rfl rfl hl.1 rfl (Nat.le_of_ble_eq_true rfl) dX7_isItem_124 ⟨Nat.le_refl _, Nat.le_refl _⟩ (fun H locs hS => ?_)
              refine lv_bipush (v := (-9 : Int32)) hx hb dX7_isItem_127 (by decide) ?_
              refine lv_icmp_ne (tgt := 143) hx hb dX7_isItem_129 (by decide) (fun c20 => ?_) (fun c20 => ?_)
              · have hB := it_f c20 hB
                refine lv_iconst (v := (0 : Int32)) hx hb dX7_isItem_143 (by decide) ?_
                subst hQ
                exact r_zret hx hb hr hK hS rfl hB hlocks dX7_isItem_144
              · have hB := it_t c20 hB
                refine lv_aload_n hx hb dX7_isItem_132 rfl (lv_at hl 0 rfl) ?_
                refine lv_iconst (v := (2 : Int32)) hx hb dX7_isItem_133 (by decide) ?_
                refine lv_iconst (v := (1 : Int32)) hx hb dX7_isItem_134 (by decide) ?_
                refine lv_bipush (v := (9 : Int32)) hx hb dX7_isItem_135 (by decide) ?_
                obtain ⟨t21, ht21, hB⟩ := bi_at hB
                refine r_Vi ⟨hx, hb, hml, hown, hts⟩ (c_X7_reads l dC dI ad cA t12.2 (2 : Int32) (1 : Int32) (9 : Int32) t21 ht21) (cwV 3 hts gX7_isItem_X7_reads rfl rfl rfl (by decide +kernel) ⟨Nat.le_of_ble_eq_true rfl, Nat.le_of_ble_eq_true rfl⟩) hK hN hS (by decide) e_45 rfl rfl hl.1 rfl (Nat.le_of_ble_eq_true rfl) dX7_isItem_137 ⟨Nat.le_refl _, Nat.le_refl _⟩ (fun H locs hS => ?_)
                refine lv_if_ne (tgt := 145) hx hb dX7_isItem_140 (by decide) (fun c22 => ?_) (fun c22 => ?_)
                · have hB := it_f c22 hB
                  refine lv_aload_n hx hb dX7_isItem_145 rfl (lv_at hl 0 rfl) ?_
                  refine lv_sipush (v := (465 : Int32)) hx hb dX7_isItem_146 (by decide) ?_
                  refine lv_aload_n hx hb dX7_isItem_149 rfl (lv_at hl 0 rfl) ?_
                  refine r_get (v := .ref (ad 50)) (C := RX7) (T := TX7) (N := 19) hx hb hts hin_X7 hown hK hS (by decide) e_45 rfl 13 (by decide) hk_f28 rfl rfl dX7_isItem_150 ?_
                  refine lv_iconst (v := (0 : Int32)) hx hb dX7_isItem_153 (by decide) ?_
                  obtain ⟨h23, hB⟩ := gd_at hB
                  refine r_iald hx hb hK hS h23 dX7_isItem_154 ?_
                  refine lv_aload_n hx hb dX7_isItem_155 rfl (lv_at hl 0 rfl) ?_
                  refine r_get (v := .ref (ad 50)) (C := RX7) (T := TX7) (N := 19) hx hb hts hin_X7 hown hK hS (by decide) e_45 rfl 13 (by decide) hk_f28 rfl rfl dX7_isItem_156 ?_
                  refine lv_iconst (v := (1 : Int32)) hx hb dX7_isItem_159 (by decide) ?_
                  obtain ⟨h24, hB⟩ := gd_at hB
                  refine r_iald hx hb hK hS h24 dX7_isItem_160 ?_
                  refine lv_aload_n hx hb dX7_isItem_161 rfl (lv_at hl 0 rfl) ?_
                  refine r_get (v := .ref (ad 50)) (C := RX7) (T := TX7) (N := 19) hx hb hts hin_X7 hown hK hS (by decide) e_45 rfl 13 (by decide) hk_f28 rfl rfl dX7_isItem_162 ?_
                  refine lv_iconst (v := (2 : Int32)) hx hb dX7_isItem_165 (by decide) ?_
                  obtain ⟨h25, hB⟩ := gd_at hB
                  refine r_iald hx hb hK hS h25 dX7_isItem_166 ?_
                  obtain ⟨t26, ht26, hB⟩ := bi_at hB
                  refine r_Vv ⟨hx, hb, hml, hown, hts⟩ (c_X7_adds l dC dI ad cA t21.2 (465 : Int32) (gA t21.2 50 (0 : Int32).toNatClampNeg) (gA t21.2 50 (1 : Int32).toNatClampNeg) (gA t21.2 50 (2 : Int32).toNatClampNeg) t26 ht26) (cwV 4 hts gX7_isItem_X7_adds rfl rfl rfl (by decide +kernel) ⟨Nat.le_of_ble_eq_true rfl, Nat.le_of_ble_eq_true rfl⟩) hK hN hS (by decide) e_45 rfl rfl hl.1 rfl (Nat.le_of_ble_eq_true rfl) dX7_isItem_167 ⟨Nat.le_refl _, Nat.le_refl _⟩ (fun H locs hS => ?_)
                  exact hJ170 t26 H locs ls hB hS (lv_sub hl [0] rfl)
                · have hB := it_t c22 hB
                  refine lv_iconst (v := (0 : Int32)) hx hb dX7_isItem_143 (by decide) ?_
                  subst hQ
                  exact r_zret hx hb hr hK hS rfl hB hlocks dX7_isItem_144
          · have hB := it_t c13 hB
            refine lv_iconst (v := (0 : Int32)) hx hb dX7_isItem_91 (by decide) ?_
            subst hQ
            exact r_zret hx hb hr hK hS rfl hB hlocks dX7_isItem_92
  · have hB := it_t c6 hB
    refine lv_iload_n hx hb dX7_isItem_9 rfl (lv_at hl 1 rfl) ?_
    refine lv_if_gt (tgt := 24) hx hb dX7_isItem_10 (by decide) (fun c27 => ?_) (fun c27 => ?_)
    · have hB := it_t c27 hB
      refine lv_iconst (v := (0 : Int32)) hx hb dX7_isItem_24 (by decide) ?_
      subst hQ
      exact r_zret hx hb hr hK hS rfl hB hlocks dX7_isItem_25
    · have hB := it_f c27 hB
      refine lv_aload_n hx hb dX7_isItem_13 rfl (lv_at hl 0 rfl) ?_
      refine lv_iconst (v := (0 : Int32)) hx hb dX7_isItem_14 (by decide) ?_
      refine lv_iconst (v := (2 : Int32)) hx hb dX7_isItem_15 (by decide) ?_
      refine lv_bipush (v := (6 : Int32)) hx hb dX7_isItem_16 (by decide) ?_
      obtain ⟨t28, ht28, hB⟩ := bi_at hB
      refine r_Vi ⟨hx, hb, hml, hown, hts⟩ (c_X7_reads l dC dI ad cA σ (0 : Int32) (2 : Int32) (6 : Int32) t28 ht28) (cwV 3 hts gX7_isItem_X7_reads rfl rfl rfl (by decide +kernel) ⟨Nat.le_of_ble_eq_true rfl, Nat.le_of_ble_eq_true rfl⟩) hK hN hS (by decide) e_45 rfl rfl hl.1 rfl (Nat.le_of_ble_eq_true rfl) dX7_isItem_18 ⟨Nat.le_refl _, Nat.le_refl _⟩ (fun H locs hS => ?_)
      refine lv_if_ne (tgt := 26) hx hb dX7_isItem_21 (by decide) (fun c29 => ?_) (fun c29 => ?_)
      · have hB := it_f c29 hB
        refine lv_aload_n hx hb dX7_isItem_26 rfl (lv_at hl 0 rfl) ?_
        refine lv_aload_n hx hb dX7_isItem_27 rfl (lv_at hl 0 rfl) ?_
        refine r_get (v := .ref (ad 50)) (C := RX7) (T := TX7) (N := 19) hx hb hts hin_X7 hown hK hS (by decide) e_45 rfl 13 (by decide) hk_f28 rfl rfl dX7_isItem_28 ?_
        refine lv_iconst (v := (0 : Int32)) hx hb dX7_isItem_31 (by decide) ?_
        obtain ⟨h30, hB⟩ := gd_at hB
        refine r_iald hx hb hK hS h30 dX7_isItem_32 ?_
        refine lv_topi (fun x31 ex31 => ?_)
        have hB := vl_at ex31 hB
        refine r_put (σ' := pI t28.2 25 x31) (v := .int x31) (C := RX7) (T := TX7) (N := 19) hx hb hts hin_X7 tyX7 tyX7_ok nmX7 hown hK hS (by decide) e_45 rfl 12 (by decide) hk_f82 rfl rfl rfl rfl (Nat.le_of_ble_eq_true rfl) (fun d hd h => eo d hd h) rfl dX7_isItem_33 (fun H locs hS => ?_)
        obtain ⟨σ32, eσ32⟩ : ∃ t : Sg, t = pI t28.2 25 x31 := ⟨_, rfl⟩
        rw [← eσ32] at hS
        have hB := vl_at eσ32 hB
        refine lv_goto (tgt := 170) hx hb dX7_isItem_36 (by decide) ?_
        exact hJ170 σ32 H locs ls hB hS (lv_sub hl [0] rfl)
      · have hB := it_t c29 hB
        refine lv_iconst (v := (0 : Int32)) hx hb dX7_isItem_24 (by decide) ?_
        subst hQ
        exact r_zret hx hb hr hK hS rfl hB hlocks dX7_isItem_25
set_option maxHeartbeats 4000000 in
set_option maxRecDepth 100000 in
theorem c_X7_net (l : Launch) (dC : Nat → ClassId) (dI : Nat → Nat → Nat) (ad : Nat → Nat) (cA : Nat → ClassId) (σ : Sg)  (z : Int32 × Sg) (hB : f_X7_net σ = some z) : Ki l dC dI ad cA yX7_net wsX7_net 4 89 [.ref (ad 45)] σ z := by
  refine mk_i (cc := cX7_net) (maxL := 2) (ret := (some .int)) (by decide) rfl (Nat.le_of_ble_eq_true rfl) ?_
  intro p e s m args below meth c Q H locs ls ⟨hx, hb, hr, hml, hown, hts, hlocks, hK, hN⟩ hQ hS hl
  have hown : s.vm.findClass RX7 = some m.cls := hown
  have hl : lv_has ls 2 [(0, .ref (ad 45))] := hl
  have hk_f55 := hts (.fieldLink RX7 55 "ChanceNetsModel" "behind" "I") (by decide +kernel)
  have hin_X7 : ∀ w ∈ u_ws RX7 TX7 19, w ∈ wsX7_net := by decide +kernel
  have hk_f82 := hts (.fieldLink RX7 82 "ChanceNetsModel" "toldNodes" "I") (by decide +kernel)
  have hk_f7 := hts (.fieldLink RX7 7 "ChanceNetsModel" "rows" "[I") (by decide +kernel)
  have hk_f58 := hts (.fieldLink RX7 58 "ChanceNetsModel" "first" "I") (by decide +kernel)
  have hk_f13 := hts (.fieldLink RX7 13 "ChanceNetsModel" "nodes" "I") (by decide +kernel)
  have hk_f52 := hts (.fieldLink RX7 52 "ChanceNetsModel" "length" "I") (by decide +kernel)
  have hk_f101 := hts (.fieldLink RX7 101 "ChanceNetsModel" "undos" "I") (by decide +kernel)
  have hk_f104 := hts (.fieldLink RX7 104 "ChanceNetsModel" "seenMany" "I") (by decide +kernel)
  have hk_f17 := hts (.fieldLink RX7 17 "ChanceNetsModel" "isKept" "[Z") (by decide +kernel)
  unfold f_X7_net at hB
  refine lv_aload_n hx hb dX7_net_0 rfl (lv_at hl 0 rfl) ?_
  refine lv_iconst (v := (0 : Int32)) hx hb dX7_net_1 (by decide) ?_
  refine r_put (σ' := pI σ 22 (0 : Int32)) (v := .int (0 : Int32)) (C := RX7) (T := TX7) (N := 19) hx hb hts hin_X7 tyX7 tyX7_ok nmX7 hown hK hS (by decide) e_45 rfl 9 (by decide) hk_f55 rfl rfl rfl rfl (Nat.le_of_ble_eq_true rfl) (fun d hd h => eo d hd h) rfl dX7_net_2 (fun H locs hS => ?_)
  obtain ⟨σ1, eσ1⟩ : ∃ t : Sg, t = pI σ 22 (0 : Int32) := ⟨_, rfl⟩
  rw [← eσ1] at hS
  have hB := vl_at eσ1 hB
  refine lv_aload_n hx hb dX7_net_5 rfl (lv_at hl 0 rfl) ?_
  refine lv_iconst (v := (2 : Int32)) hx hb dX7_net_6 (by decide) ?_
  refine r_put (σ' := pI σ1 25 (2 : Int32)) (v := .int (2 : Int32)) (C := RX7) (T := TX7) (N := 19) hx hb hts hin_X7 tyX7 tyX7_ok nmX7 hown hK hS (by decide) e_45 rfl 12 (by decide) hk_f82 rfl rfl rfl rfl (Nat.le_of_ble_eq_true rfl) (fun d hd h => eo d hd h) rfl dX7_net_7 (fun H locs hS => ?_)
  obtain ⟨σ2, eσ2⟩ : ∃ t : Sg, t = pI σ1 25 (2 : Int32) := ⟨_, rfl⟩
  rw [← eσ2] at hS
  have hB := vl_at eσ2 hB
  refine lv_aload_n hx hb dX7_net_10 rfl (lv_at hl 0 rfl) ?_
  refine r_get (v := .ref (ad 46)) (C := RX7) (T := TX7) (N := 19) hx hb hts hin_X7 hown hK hS (by decide) e_45 rfl 0 (by decide) hk_f7 rfl rfl dX7_net_11 ?_
  refine lv_sipush (v := (465 : Int32)) hx hb dX7_net_14 (by decide) ?_
  refine lv_iconst (v := (0 : Int32)) hx hb dX7_net_17 (by decide) ?_
  obtain ⟨h3, hB⟩ := gd_at hB
  refine r_iast hx hb hK hS h3 dX7_net_18 (fun H locs hS => ?_)
  obtain ⟨σ4, eσ4⟩ : ∃ t : Sg, t = pA σ2 46 (465 : Int32).toNatClampNeg (0 : Int32) := ⟨_, rfl⟩
  rw [← eσ4] at hS
  have hB := vl_at eσ4 hB
  refine lv_iconst (v := (0 : Int32)) hx hb dX7_net_19 (by decide) ?_
  refine lv_istore_n (lv' := [(1, .int (0 : Int32)), (0, .ref (ad 45))]) hx hb dX7_net_20 rfl hl (by decide) rfl (fun ls hl => ?_)
  refine lv_aload_n hx hb dX7_net_21 rfl (lv_at hl 1 rfl) ?_
  obtain ⟨t5, ht5, hB⟩ := bi_at hB
  refine r_Vv ⟨hx, hb, hml, hown, hts⟩ (c_X7_next l dC dI ad cA σ4 t5 ht5) (cwV 0 hts gX7_net_X7_next rfl rfl rfl (by decide +kernel) ⟨Nat.le_of_ble_eq_true rfl, Nat.le_of_ble_eq_true rfl⟩) hK hN hS (by decide) e_45 rfl rfl hl.1 rfl (Nat.le_of_ble_eq_true rfl) dX7_net_22 ⟨Nat.le_refl _, Nat.le_refl _⟩ (fun H locs hS => ?_)
  obtain ⟨t14, ht14, hB⟩ := bi_at hB
  refine wl_W (body := fun a => f_X7_net_B25 a.1 a.2) (Hd := fun a : Int32 × Sg => ∀ (H : Heap) (locs : List Loc) (ls : Array Slot), ST dC dI ad cA s a.2 H locs → lv_has ls 2 [(0, .ref (ad 45)), (1, .int a.1)] → W p l e (RM 4 89) s m args below meth c H locs 0 0 Q (F0 m 25 ls [])) (Ex := fun b : (Int32 × Sg) ⊕ (Int32 × Sg) => Sum.elim (fun b : Int32 × Sg => ∀ (H : Heap) (locs : List Loc) (ls : Array Slot), ST dC dI ad cA s b.2 H locs → lv_has ls 2 [(0, .ref (ad 45)), (1, .int b.1)] → W p l e (RM 4 89) s m args below meth c H locs 0 0 Q (F0 m 58 ls [])) (fun v => some v = some z) b) ?_ FU _ t14 ht14 ?_ H locs ls hS (lv_sub hl [1, 0] rfl)
  · intro a r25 hB hI25 hE25 H locs ls hS hl
    obtain ⟨x6, σ7⟩ := a
    have hB : f_X7_net_B25 x6 σ7 = some r25 := hB
    unfold f_X7_net_B25 at hB
    have hS : ST dC dI ad cA s σ7 H locs := hS
    have hl : lv_has ls 2 [(0, .ref (ad 45)), (1, .int x6)] := hl
    show W p l e (RM 4 89) s m args below meth c H locs 0 0 Q (F0 m 25 ls [])
    refine lv_aload_n hx hb dX7_net_25 rfl (lv_at hl 0 rfl) ?_
    obtain ⟨t8, ht8, hB⟩ := bi_at hB
    refine r_ViP ⟨hx, hb, hml, hown, hts⟩ (c_X7_isEnd l dC dI ad cA σ7 t8 ht8) (cwV 0 hts gX7_net_X7_isEnd rfl rfl rfl (by decide +kernel) ⟨Nat.le_of_ble_eq_true rfl, Nat.le_of_ble_eq_true rfl⟩) hK hN hS (by decide) e_45 rfl rfl hl.1 rfl (Nat.le_of_ble_eq_true rfl) dX7_net_26 ⟨Nat.le_refl _, Nat.le_refl _⟩ (fun H locs hS => ?_)
    refine lv_if_ne (tgt := 58) hx hb dX7_net_29 (by decide) (fun c9 => ?_) (fun c9 => ?_)
    · have hB := it_f c9 hB
      exact hE25 _ (Option.some.inj hB).symm H locs ls hS (lv_sub hl [0, 1] rfl)
    · have hB := it_t c9 hB
      refine lv_aload_n hx hb dX7_net_32 rfl (lv_at hl 0 rfl) ?_
      refine lv_iload_n hx hb dX7_net_33 rfl (lv_at hl 1 rfl) ?_
      obtain ⟨t10, ht10, hB⟩ := bi_at hB
      refine r_Vi ⟨hx, hb, hml, hown, hts⟩ (c_X7_isItem l dC dI ad cA σ7 x6 t10 ht10) (cwV 1 hts gX7_net_X7_isItem rfl rfl rfl (by decide +kernel) ⟨Nat.le_of_ble_eq_true rfl, Nat.le_of_ble_eq_true rfl⟩) hK hN hS (by decide) e_45 rfl rfl hl.1 rfl (Nat.le_of_ble_eq_true rfl) dX7_net_34 ⟨Nat.le_refl _, Nat.le_refl _⟩ (fun H locs hS => ?_)
      refine lv_if_ne (tgt := 48) hx hb dX7_net_37 (by decide) (fun c11 => ?_) (fun c11 => ?_)
      · have hB := it_f c11 hB
        obtain ⟨x12, ex12⟩ : ∃ y : Int32, y = x6 + (1 : Int32) := ⟨_, rfl⟩
        have hB := vl_at ex12 hB
        refine lv_iinc (v := x12) (lv' := [(1, .int x12), (0, .ref (ad 45))]) hx hb dX7_net_48 hl (k := 1) rfl (by rw [ex12]; rfl) (by decide) rfl (fun ls hl => ?_)
        refine lv_aload_n hx hb dX7_net_51 rfl (lv_at hl 1 rfl) ?_
        obtain ⟨t13, ht13, hB⟩ := bi_at hB
        refine r_Vv ⟨hx, hb, hml, hown, hts⟩ (c_X7_next l dC dI ad cA t10.2 t13 ht13) (cwV 0 hts gX7_net_X7_next rfl rfl rfl (by decide +kernel) ⟨Nat.le_of_ble_eq_true rfl, Nat.le_of_ble_eq_true rfl⟩) hK hN hS (by decide) e_45 rfl rfl hl.1 rfl (Nat.le_of_ble_eq_true rfl) dX7_net_52 ⟨Nat.le_refl _, Nat.le_refl _⟩ (fun H locs hS => ?_)
        refine lv_goto (tgt := 25) hx hb dX7_net_55 (by decide) ?_
        exact hI25 _ (Option.some.inj hB).symm H locs ls hS (lv_sub hl [1, 0] rfl)
      · have hB := it_t c11 hB
        refine lv_bipush (v := (-10 : Int32)) hx hb dX7_net_40 (by decide) ?_
        refine lv_aload_n hx hb dX7_net_42 rfl (lv_at hl 0 rfl) ?_
        refine r_get (v := .int (gI t10.2 21)) (C := RX7) (T := TX7) (N := 19) hx hb hts hin_X7 hown hK hS (by decide) e_45 rfl 8 (by decide) hk_f58 rfl rfl dX7_net_43 ?_
        refine lv_isub hx hb dX7_net_46 ?_
        subst hQ
        exact r_iret hx hb hr hK hS (hE25 _ (Option.some.inj hB).symm) hlocks dX7_net_47
  · rcases t14 with t14 | v
    · rw [Sum.elim_inl] at hB
      intro H locs ls hS hl
      have hS : ST dC dI ad cA s t14.2 H locs := hS
      have hl : lv_has ls 2 [(0, .ref (ad 45)), (1, .int t14.1)] := hl
      show W p l e (RM 4 89) s m args below meth c H locs 0 0 Q (F0 m 58 ls [])
      refine lv_aload_n hx hb dX7_net_58 rfl (lv_at hl 0 rfl) ?_
      refine lv_sipush (v := (465 : Int32)) hx hb dX7_net_59 (by decide) ?_
      refine lv_iconst (v := (0 : Int32)) hx hb dX7_net_62 (by decide) ?_
      obtain ⟨t15, ht15, hB⟩ := bi_at hB
      refine r_Vv ⟨hx, hb, hml, hown, hts⟩ (c_X7_copyRow l dC dI ad cA t14.2 (465 : Int32) (0 : Int32) t15 ht15) (cwV 2 hts gX7_net_X7_copyRow rfl rfl rfl (by decide +kernel) ⟨Nat.le_of_ble_eq_true rfl, Nat.le_of_ble_eq_true rfl⟩) hK hN hS (by decide) e_45 rfl rfl hl.1 rfl (Nat.le_of_ble_eq_true rfl) dX7_net_63 ⟨Nat.le_refl _, Nat.le_refl _⟩ (fun H locs hS => ?_)
      refine lv_aload_n hx hb dX7_net_66 rfl (lv_at hl 0 rfl) ?_
      refine lv_aload_n hx hb dX7_net_67 rfl (lv_at hl 0 rfl) ?_
      refine r_get (v := .int (gI t15 25)) (C := RX7) (T := TX7) (N := 19) hx hb hts hin_X7 hown hK hS (by decide) e_45 rfl 12 (by decide) hk_f82 rfl rfl dX7_net_68 ?_
      refine lv_topi (fun x16 ex16 => ?_)
      have hB := vl_at ex16 hB
      refine r_put (σ' := pI t15 17 x16) (v := .int x16) (C := RX7) (T := TX7) (N := 19) hx hb hts hin_X7 tyX7 tyX7_ok nmX7 hown hK hS (by decide) e_45 rfl 1 (by decide) hk_f13 rfl rfl rfl rfl (Nat.le_of_ble_eq_true rfl) (fun d hd h => eo d hd h) rfl dX7_net_71 (fun H locs hS => ?_)
      obtain ⟨σ17, eσ17⟩ : ∃ t : Sg, t = pI t15 17 x16 := ⟨_, rfl⟩
      rw [← eσ17] at hS
      have hB := vl_at eσ17 hB
      refine lv_aload_n hx hb dX7_net_74 rfl (lv_at hl 0 rfl) ?_
      refine lv_iconst (v := (0 : Int32)) hx hb dX7_net_75 (by decide) ?_
      refine r_put (σ' := pI σ17 19 (0 : Int32)) (v := .int (0 : Int32)) (C := RX7) (T := TX7) (N := 19) hx hb hts hin_X7 tyX7 tyX7_ok nmX7 hown hK hS (by decide) e_45 rfl 5 (by decide) hk_f52 rfl rfl rfl rfl (Nat.le_of_ble_eq_true rfl) (fun d hd h => eo d hd h) rfl dX7_net_76 (fun H locs hS => ?_)
      obtain ⟨σ18, eσ18⟩ : ∃ t : Sg, t = pI σ17 19 (0 : Int32) := ⟨_, rfl⟩
      rw [← eσ18] at hS
      have hB := vl_at eσ18 hB
      refine lv_aload_n hx hb dX7_net_79 rfl (lv_at hl 0 rfl) ?_
      refine lv_iconst (v := (0 : Int32)) hx hb dX7_net_80 (by decide) ?_
      refine r_put (σ' := pI σ18 18 (0 : Int32)) (v := .int (0 : Int32)) (C := RX7) (T := TX7) (N := 19) hx hb hts hin_X7 tyX7 tyX7_ok nmX7 hown hK hS (by decide) e_45 rfl 2 (by decide) hk_f101 rfl rfl rfl rfl (Nat.le_of_ble_eq_true rfl) (fun d hd h => eo d hd h) rfl dX7_net_81 (fun H locs hS => ?_)
      obtain ⟨σ19, eσ19⟩ : ∃ t : Sg, t = pI σ18 18 (0 : Int32) := ⟨_, rfl⟩
      rw [← eσ19] at hS
      have hB := vl_at eσ19 hB
      refine lv_aload_n hx hb dX7_net_84 rfl (lv_at hl 0 rfl) ?_
      refine lv_iconst (v := (0 : Int32)) hx hb dX7_net_85 (by decide) ?_
      refine r_put (σ' := pI σ19 20 (0 : Int32)) (v := .int (0 : Int32)) (C := RX7) (T := TX7) (N := 19) hx hb hts hin_X7 tyX7 tyX7_ok nmX7 hown hK hS (by decide) e_45 rfl 7 (by decide) hk_f104 rfl rfl rfl rfl (Nat.le_of_ble_eq_true rfl) (fun d hd h => eo d hd h) rfl dX7_net_86 (fun H locs hS => ?_)
      obtain ⟨σ20, eσ20⟩ : ∃ t : Sg, t = pI σ19 20 (0 : Int32) := ⟨_, rfl⟩
      rw [← eσ20] at hS
      have hB := vl_at eσ20 hB
      refine lv_aload_n hx hb dX7_net_89 rfl (lv_at hl 0 rfl) ?_
      refine r_get (v := .ref (ad 47)) (C := RX7) (T := TX7) (N := 19) hx hb hts hin_X7 hown hK hS (by decide) e_45 rfl 3 (by decide) hk_f17 rfl rfl dX7_net_90 ?_
      refine lv_iconst (v := (0 : Int32)) hx hb dX7_net_93 (by decide) ?_
      refine lv_iconst (v := (0 : Int32)) hx hb dX7_net_94 (by decide) ?_
      obtain ⟨h21, hB⟩ := gd_at hB
      refine r_zast hx hb hK hS rfl h21 dX7_net_95 (fun H locs hS => ?_)
      obtain ⟨σ22, eσ22⟩ : ∃ t : Sg, t = pA σ20 47 (0 : Int32).toNatClampNeg (0 : Int32) := ⟨_, rfl⟩
      rw [← eσ22] at hS
      have hB := vl_at eσ22 hB
      refine lv_aload_n hx hb dX7_net_96 rfl (lv_at hl 0 rfl) ?_
      refine r_get (v := .ref (ad 47)) (C := RX7) (T := TX7) (N := 19) hx hb hts hin_X7 hown hK hS (by decide) e_45 rfl 3 (by decide) hk_f17 rfl rfl dX7_net_97 ?_
      refine lv_iconst (v := (1 : Int32)) hx hb dX7_net_100 (by decide) ?_
      refine lv_iconst (v := (0 : Int32)) hx hb dX7_net_101 (by decide) ?_
      obtain ⟨h23, hB⟩ := gd_at hB
      refine r_zast hx hb hK hS rfl h23 dX7_net_102 (fun H locs hS => ?_)
      obtain ⟨σ24, eσ24⟩ : ∃ t : Sg, t = pA σ22 47 (1 : Int32).toNatClampNeg (0 : Int32) := ⟨_, rfl⟩
      rw [← eσ24] at hS
      have hB := vl_at eσ24 hB
      refine lv_iload_n hx hb dX7_net_103 rfl (lv_at hl 1 rfl) ?_
      subst hQ
      exact r_iret hx hb hr hK hS hB hlocks dX7_net_104
    · exact hB
set_option maxHeartbeats 4000000 in
set_option maxRecDepth 100000 in
theorem c_X7_isNode (l : Launch) (dC : Nat → ClassId) (dI : Nat → Nat → Nat) (ad : Nat → Nat) (cA : Nat → ClassId) (σ : Sg) (a1 : Int32) (z : Int32) (hB : f_X7_isNode σ a1 = some z) : Ki l dC dI ad cA yX7_isNode wsX7_isNode 1 25 [.ref (ad 45), .int a1] σ (z, σ) := by
  refine mk_i (cc := cX7_isNode) (maxL := 2) (ret := (some .boolean)) (by decide) rfl (Nat.le_of_ble_eq_true rfl) ?_
  intro p e s m args below meth c Q H locs ls ⟨hx, hb, hr, hml, hown, hts, hlocks, hK, hN⟩ hQ hS hl
  have hown : s.vm.findClass RX7 = some m.cls := hown
  have hl : lv_has ls 2 [(0, .ref (ad 45)), (1, .int a1)] := hl
  have hk_f13 := hts (.fieldLink RX7 13 "ChanceNetsModel" "nodes" "I") (by decide +kernel)
  have hin_X7 : ∀ w ∈ u_ws RX7 TX7 19, w ∈ wsX7_isNode := by decide +kernel
  unfold f_X7_isNode at hB
  refine lv_iload_n hx hb dX7_isNode_0 rfl (lv_at hl 1 rfl) ?_
  refine lv_i2l hx hb dX7_isNode_1 rfl ?_
  refine lv_lconst (v := (0 : Int64)) hx hb dX7_isNode_2 (by decide) ?_
  refine lv_aload_n hx hb dX7_isNode_3 rfl (lv_at hl 0 rfl) ?_
  refine r_get (v := .int (gI σ 17)) (C := RX7) (T := TX7) (N := 19) hx hb hts hin_X7 hown hK hS (by decide) e_45 rfl 1 (by decide) hk_f13 rfl rfl dX7_isNode_4 ?_
  refine lv_iconst (v := (1 : Int32)) hx hb dX7_isNode_7 (by decide) ?_
  refine lv_isub hx hb dX7_isNode_8 ?_
  refine lv_i2l hx hb dX7_isNode_9 rfl ?_
  obtain ⟨t1, ht1, hB⟩ := bi_at hB
  refine r_SiP ⟨hx, hb, hml, hown, hts⟩ (c_X7_in l dC dI ad cA σ a1.toInt64 (0 : Int64) (((gI σ 17) - (1 : Int32)).toInt64) t1 ht1) (va_cwS 3 hts gX7_isNode_X7_in rfl rfl rfl (by decide +kernel) ⟨Nat.le_of_ble_eq_true rfl, Nat.le_of_ble_eq_true rfl⟩) hK hN hS rfl hl.1 rfl (Nat.le_of_ble_eq_true rfl) dX7_isNode_10 ⟨Nat.le_refl _, Nat.le_refl _⟩ (fun H locs hS => ?_)
  obtain ⟨h2, hB⟩ := gd_at hB
  subst hQ
  exact r_zret hx hb hr hK hS (okZ_nar h2) (pz hB) hlocks dX7_isNode_13
set_option maxHeartbeats 4000000 in
set_option maxRecDepth 100000 in
theorem c_X7_isLine (l : Launch) (dC : Nat → ClassId) (dI : Nat → Nat → Nat) (ad : Nat → Nat) (cA : Nat → ClassId) (σ : Sg) (a1 : Int32) (z : Int32) (hB : f_X7_isLine σ a1 = some z) : Ki l dC dI ad cA yX7_isLine wsX7_isLine 1 25 [.ref (ad 45), .int a1] σ (z, σ) := by
  refine mk_i (cc := cX7_isLine) (maxL := 2) (ret := (some .boolean)) (by decide) rfl (Nat.le_of_ble_eq_true rfl) ?_
  intro p e s m args below meth c Q H locs ls ⟨hx, hb, hr, hml, hown, hts, hlocks, hK, hN⟩ hQ hS hl
  have hown : s.vm.findClass RX7 = some m.cls := hown
  have hl : lv_has ls 2 [(0, .ref (ad 45)), (1, .int a1)] := hl
  unfold f_X7_isLine at hB
  refine lv_iload_n hx hb dX7_isLine_0 rfl (lv_at hl 1 rfl) ?_
  refine lv_i2l hx hb dX7_isLine_1 rfl ?_
  refine lv_lconst (v := (0 : Int64)) hx hb dX7_isLine_2 (by decide) ?_
  refine lv_aload_n hx hb dX7_isLine_3 rfl (lv_at hl 0 rfl) ?_
  obtain ⟨t1, ht1, hB⟩ := bi_at hB
  refine r_ViP ⟨hx, hb, hml, hown, hts⟩ (c_X7_lines l dC dI ad cA σ t1 ht1) (cwV 0 hts gX7_isLine_X7_lines rfl rfl rfl (by decide +kernel) ⟨Nat.le_of_ble_eq_true rfl, Nat.le_of_ble_eq_true rfl⟩) hK hN hS (by decide) e_45 rfl rfl hl.1 rfl (Nat.le_of_ble_eq_true rfl) dX7_isLine_4 ⟨Nat.le_refl _, Nat.le_refl _⟩ (fun H locs hS => ?_)
  refine lv_iconst (v := (1 : Int32)) hx hb dX7_isLine_7 (by decide) ?_
  refine lv_isub hx hb dX7_isLine_8 ?_
  refine lv_i2l hx hb dX7_isLine_9 rfl ?_
  obtain ⟨t2, ht2, hB⟩ := bi_at hB
  refine r_SiP ⟨hx, hb, hml, hown, hts⟩ (c_X7_in l dC dI ad cA σ a1.toInt64 (0 : Int64) ((t1 - (1 : Int32)).toInt64) t2 ht2) (va_cwS 3 hts gX7_isLine_X7_in rfl rfl rfl (by decide +kernel) ⟨Nat.le_of_ble_eq_true rfl, Nat.le_of_ble_eq_true rfl⟩) hK hN hS rfl hl.1 rfl (Nat.le_of_ble_eq_true rfl) dX7_isLine_10 ⟨Nat.le_refl _, Nat.le_refl _⟩ (fun H locs hS => ?_)
  obtain ⟨h3, hB⟩ := gd_at hB
  subst hQ
  exact r_zret hx hb hr hK hS (okZ_nar h3) (pz hB) hlocks dX7_isLine_13
set_option maxHeartbeats 4000000 in
set_option maxRecDepth 100000 in
theorem c_X7_line (l : Launch) (dC : Nat → ClassId) (dI : Nat → Nat → Nat) (ad : Nat → Nat) (cA : Nat → ClassId) (σ : Sg) (a1 : Int32) (a2 : Int32) (z : Int32) (hB : f_X7_line σ a1 a2 = some z) : Ki l dC dI ad cA yX7_line wsX7_line 2 46 [.ref (ad 45), .int a1, .int a2] σ (z, σ) := by
  refine mk_i (cc := cX7_line) (maxL := 3) (ret := (some .int)) (by decide) rfl (Nat.le_of_ble_eq_true rfl) ?_
  intro p e s m args below meth c Q H locs ls ⟨hx, hb, hr, hml, hown, hts, hlocks, hK, hN⟩ hQ hS hl
  have hown : s.vm.findClass RX7 = some m.cls := hown
  have hl : lv_has ls 3 [(0, .ref (ad 45)), (1, .int a1), (2, .int a2)] := hl
  have hk_c114 := hts (.constantLong RX7 114 (2)) (by decide +kernel)
  have hk_f7 := hts (.fieldLink RX7 7 "ChanceNetsModel" "rows" "[I") (by decide +kernel)
  have hin_X7 : ∀ w ∈ u_ws RX7 TX7 19, w ∈ wsX7_line := by decide +kernel
  unfold f_X7_line at hB
  refine lv_aload_n hx hb dX7_line_0 rfl (lv_at hl 0 rfl) ?_
  refine lv_iload_n hx hb dX7_line_1 rfl (lv_at hl 1 rfl) ?_
  obtain ⟨t1, ht1, hB⟩ := bi_at hB
  refine r_ViP ⟨hx, hb, hml, hown, hts⟩ (c_X7_isLine l dC dI ad cA σ a1 t1 ht1) (cwV 1 hts gX7_line_X7_isLine rfl rfl rfl (by decide +kernel) ⟨Nat.le_of_ble_eq_true rfl, Nat.le_of_ble_eq_true rfl⟩) hK hN hS (by decide) e_45 rfl rfl hl.1 rfl (Nat.le_of_ble_eq_true rfl) dX7_line_2 ⟨Nat.le_refl _, Nat.le_refl _⟩ (fun H locs hS => ?_)
  refine lv_if_eq (tgt := 20) hx hb dX7_line_5 (by decide) (fun c2 => ?_) (fun c2 => ?_)
  · have hB := it_t c2 hB
    refine lv_iconst (v := (-1 : Int32)) hx hb dX7_line_20 (by decide) ?_
    subst hQ
    exact r_iret hx hb hr hK hS (pz hB) hlocks dX7_line_21
  · have hB := it_f c2 hB
    refine lv_iload_n hx hb dX7_line_8 rfl (lv_at hl 2 rfl) ?_
    refine lv_i2l hx hb dX7_line_9 rfl ?_
    refine lv_lconst (v := (0 : Int64)) hx hb dX7_line_10 (by decide) ?_
    refine lv_ldc2 (v := (2 : Int64)) hx hb hown hk_c114 dX7_line_11 ?_
    obtain ⟨t3, ht3, hB⟩ := bi_at hB
    refine r_SiP ⟨hx, hb, hml, hown, hts⟩ (c_X7_in l dC dI ad cA σ a2.toInt64 (0 : Int64) (2 : Int64) t3 ht3) (va_cwS 3 hts gX7_line_X7_in rfl rfl rfl (by decide +kernel) ⟨Nat.le_of_ble_eq_true rfl, Nat.le_of_ble_eq_true rfl⟩) hK hN hS rfl hl.1 rfl (Nat.le_of_ble_eq_true rfl) dX7_line_14 ⟨Nat.le_refl _, Nat.le_refl _⟩ (fun H locs hS => ?_)
    refine lv_if_ne (tgt := 22) hx hb dX7_line_17 (by decide) (fun c4 => ?_) (fun c4 => ?_)
    · have hB := it_f c4 hB
      refine lv_iload_n hx hb dX7_line_22 rfl (lv_at hl 2 rfl) ?_
      refine lv_if_ne (tgt := 37) hx hb dX7_line_23 (by decide) (fun c5 => ?_) (fun c5 => ?_)
      · have hB := it_f c5 hB
        refine lv_iload_n hx hb dX7_line_37 rfl (lv_at hl 2 rfl) ?_
        refine lv_iconst (v := (1 : Int32)) hx hb dX7_line_38 (by decide) ?_
        refine lv_icmp_ne (tgt := 54) hx hb dX7_line_39 (by decide) (fun c6 => ?_) (fun c6 => ?_)
        · have hB := it_f c6 hB
          refine lv_aload_n hx hb dX7_line_54 rfl (lv_at hl 0 rfl) ?_
          refine r_get (v := .ref (ad 46)) (C := RX7) (T := TX7) (N := 19) hx hb hts hin_X7 hown hK hS (by decide) e_45 rfl 0 (by decide) hk_f7 rfl rfl dX7_line_55 ?_
          refine lv_bipush (v := (21 : Int32)) hx hb dX7_line_58 (by decide) ?_
          refine lv_iload_n hx hb dX7_line_60 rfl (lv_at hl 1 rfl) ?_
          refine lv_iadd hx hb dX7_line_61 ?_
          obtain ⟨h7, hB⟩ := gd_at hB
          refine r_iald hx hb hK hS h7 dX7_line_62 ?_
          subst hQ
          exact r_iret hx hb hr hK hS (pz hB) hlocks dX7_line_63
        · have hB := it_t c6 hB
          refine lv_aload_n hx hb dX7_line_42 rfl (lv_at hl 0 rfl) ?_
          refine r_get (v := .ref (ad 46)) (C := RX7) (T := TX7) (N := 19) hx hb hts hin_X7 hown hK hS (by decide) e_45 rfl 0 (by decide) hk_f7 rfl rfl dX7_line_43 ?_
          refine lv_bipush (v := (11 : Int32)) hx hb dX7_line_46 (by decide) ?_
          refine lv_iload_n hx hb dX7_line_48 rfl (lv_at hl 1 rfl) ?_
          refine lv_iadd hx hb dX7_line_49 ?_
          obtain ⟨h8, hB⟩ := gd_at hB
          refine r_iald hx hb hK hS h8 dX7_line_50 ?_
          refine lv_goto (tgt := 63) hx hb dX7_line_51 (by decide) ?_
          subst hQ
          exact r_iret hx hb hr hK hS (pz hB) hlocks dX7_line_63
      · have hB := it_t c5 hB
        refine lv_aload_n hx hb dX7_line_26 rfl (lv_at hl 0 rfl) ?_
        refine r_get (v := .ref (ad 46)) (C := RX7) (T := TX7) (N := 19) hx hb hts hin_X7 hown hK hS (by decide) e_45 rfl 0 (by decide) hk_f7 rfl rfl dX7_line_27 ?_
        refine lv_iconst (v := (1 : Int32)) hx hb dX7_line_30 (by decide) ?_
        refine lv_iload_n hx hb dX7_line_31 rfl (lv_at hl 1 rfl) ?_
        refine lv_iadd hx hb dX7_line_32 ?_
        obtain ⟨h9, hB⟩ := gd_at hB
        refine r_iald hx hb hK hS h9 dX7_line_33 ?_
        refine lv_goto (tgt := 63) hx hb dX7_line_34 (by decide) ?_
        subst hQ
        exact r_iret hx hb hr hK hS (pz hB) hlocks dX7_line_63
    · have hB := it_t c4 hB
      refine lv_iconst (v := (-1 : Int32)) hx hb dX7_line_20 (by decide) ?_
      subst hQ
      exact r_iret hx hb hr hK hS (pz hB) hlocks dX7_line_21
set_option maxHeartbeats 4000000 in
set_option maxRecDepth 100000 in
theorem c_X7_degree (l : Launch) (dC : Nat → ClassId) (dI : Nat → Nat → Nat) (ad : Nat → Nat) (cA : Nat → ClassId) (σ : Sg) (a1 : Int32) (a2 : Int32) (z : Int32) (hB : f_X7_degree σ a1 a2 = some z) : Ki l dC dI ad cA yX7_degree wsX7_degree 1 20 [.ref (ad 45), .int a1, .int a2] σ (z, σ) := by
  refine mk_i (cc := cX7_degree) (maxL := 5) (ret := (some .int)) (by decide) rfl (Nat.le_of_ble_eq_true rfl) ?_
  intro p e s m args below meth c Q H locs ls ⟨hx, hb, hr, hml, hown, hts, hlocks, hK, hN⟩ hQ hS hl
  have hown : s.vm.findClass RX7 = some m.cls := hown
  have hl : lv_has ls 5 [(0, .ref (ad 45)), (1, .int a1), (2, .int a2)] := hl
  have hk_f7 := hts (.fieldLink RX7 7 "ChanceNetsModel" "rows" "[I") (by decide +kernel)
  have hin_X7 : ∀ w ∈ u_ws RX7 TX7 19, w ∈ wsX7_degree := by decide +kernel
  unfold f_X7_degree at hB
  refine lv_iconst (v := (0 : Int32)) hx hb dX7_degree_0 (by decide) ?_
  refine lv_istore_n (lv' := [(3, .int (0 : Int32)), (0, .ref (ad 45)), (1, .int a1), (2, .int a2)]) hx hb dX7_degree_1 rfl hl (by decide) rfl (fun ls hl => ?_)
  refine lv_iconst (v := (0 : Int32)) hx hb dX7_degree_2 (by decide) ?_
  refine lv_istore (lv' := [(4, .int (0 : Int32)), (3, .int (0 : Int32)), (0, .ref (ad 45)), (1, .int a1), (2, .int a2)]) hx hb dX7_degree_3 hl (by decide) rfl (fun ls hl => ?_)
  obtain ⟨t15, ht15, hB⟩ := bi_at hB
  refine wl_W (body := fun a => f_X7_degree_B5 σ a1 a2 a.1 a.2) (Hd := fun a : Int32 × Int32 => ∀ (H : Heap) (locs : List Loc) (ls : Array Slot), ST dC dI ad cA s σ H locs → lv_has ls 5 [(0, .ref (ad 45)), (1, .int a1), (2, .int a2), (3, .int a.1), (4, .int a.2)] → W p l e (RM 1 20) s m args below meth c H locs 0 0 Q (F0 m 5 ls [])) (Ex := fun b : Int32 => ∀ (H : Heap) (locs : List Loc) (ls : Array Slot), ST dC dI ad cA s σ H locs → lv_has ls 5 [(3, .int b)] → W p l e (RM 1 20) s m args below meth c H locs 0 0 Q (F0 m 70 ls [])) ?_ FU _ t15 ht15 ?_ H locs ls hS (lv_sub hl [2, 3, 4, 1, 0] rfl)
  · intro a r5 hB hI5 hE5 H locs ls hS hl
    obtain ⟨x1, x2⟩ := a
    have hB : f_X7_degree_B5 σ a1 a2 x1 x2 = some r5 := hB
    unfold f_X7_degree_B5 at hB
    have hS : ST dC dI ad cA s σ H locs := hS
    have hl : lv_has ls 5 [(0, .ref (ad 45)), (1, .int a1), (2, .int a2), (3, .int x1), (4, .int x2)] := hl
    show W p l e (RM 1 20) s m args below meth c H locs 0 0 Q (F0 m 5 ls [])
    refine lv_iload hx hb dX7_degree_5 (lv_at hl 4 rfl) ?_
    refine lv_aload_n hx hb dX7_degree_7 rfl (lv_at hl 0 rfl) ?_
    obtain ⟨t3, ht3, hB⟩ := bi_at hB
    refine r_ViP ⟨hx, hb, hml, hown, hts⟩ (c_X7_lines l dC dI ad cA σ t3 ht3) (cwV 0 hts gX7_degree_X7_lines rfl rfl rfl (by decide +kernel) ⟨Nat.le_of_ble_eq_true rfl, Nat.le_of_ble_eq_true rfl⟩) hK hN hS (by decide) e_45 rfl rfl hl.1 rfl (Nat.le_of_ble_eq_true rfl) dX7_degree_8 ⟨Nat.le_refl _, Nat.le_refl _⟩ (fun H locs hS => ?_)
    refine lv_icmp_ge (tgt := 70) hx hb dX7_degree_11 (by decide) (fun c4 => ?_) (fun c4 => ?_)
    · have hB := it_t c4 hB
      exact hE5 _ (Option.some.inj hB).symm H locs ls hS (lv_sub hl [3] rfl)
    · have hB := it_f c4 hB
      refine lv_iload_n hx hb dX7_degree_14 rfl (lv_at hl 3 rfl) ?_
      refine lv_iload hx hb dX7_degree_15 (lv_at hl 4 rfl) ?_
      refine lv_iload_n hx hb dX7_degree_17 rfl (lv_at hl 2 rfl) ?_
      have hJ61 : ∀ (H : Heap) (locs : List Loc) (ls : Array Slot), f_X7_degree_J61 x1 x2 = some r5 → ST dC dI ad cA s σ H locs → lv_has ls 5 [(0, .ref (ad 45)), (1, .int a1), (2, .int a2), (4, .int x2)] → W p l e (RM 1 20) s m args below meth c H locs 0 0 Q (F0 m 61 ls [.int x1]) := by
        intro H locs ls hB hS hl
        unfold f_X7_degree_J61 at hB
        refine lv_iconst (v := (0 : Int32)) hx hb dX7_degree_61 (by decide) ?_
        refine lv_iadd hx hb dX7_degree_62 ?_
        refine lv_topi (fun x5 ex5 => ?_)
        have hB := vl_at ex5 hB
        refine lv_istore_n (lv' := [(3, .int x5), (0, .ref (ad 45)), (1, .int a1), (2, .int a2), (4, .int x2)]) hx hb dX7_degree_63 rfl hl (by decide) rfl (fun ls hl => ?_)
        obtain ⟨x6, ex6⟩ : ∃ y : Int32, y = x2 + (1 : Int32) := ⟨_, rfl⟩
        have hB := vl_at ex6 hB
        refine lv_iinc (v := x6) (lv' := [(4, .int x6), (3, .int x5), (0, .ref (ad 45)), (1, .int a1), (2, .int a2)]) hx hb dX7_degree_64 hl (k := 4) rfl (by rw [ex6]; rfl) (by decide) rfl (fun ls hl => ?_)
        refine lv_goto (tgt := 5) hx hb dX7_degree_67 (by decide) ?_
        exact hI5 _ (Option.some.inj hB).symm H locs ls hS (lv_sub hl [2, 3, 4, 1, 0] rfl)
      refine lv_icmp_eq (tgt := 61) hx hb dX7_degree_18 (by decide) (fun c7 => ?_) (fun c7 => ?_)
      · have hB := it_t c7 hB
        exact hJ61  H locs ls hB hS (lv_sub hl [0, 1, 2, 4] rfl)
      · have hB := it_f c7 hB
        refine lv_aload_n hx hb dX7_degree_21 rfl (lv_at hl 0 rfl) ?_
        refine r_get (v := .ref (ad 46)) (C := RX7) (T := TX7) (N := 19) hx hb hts hin_X7 hown hK hS (by decide) e_45 rfl 0 (by decide) hk_f7 rfl rfl dX7_degree_22 ?_
        refine lv_iconst (v := (1 : Int32)) hx hb dX7_degree_25 (by decide) ?_
        refine lv_iload hx hb dX7_degree_26 (lv_at hl 4 rfl) ?_
        refine lv_iadd hx hb dX7_degree_28 ?_
        obtain ⟨h8, hB⟩ := gd_at hB
        refine r_iald hx hb hK hS h8 dX7_degree_29 ?_
        refine lv_iload_n hx hb dX7_degree_30 rfl (lv_at hl 1 rfl) ?_
        have hJ48 : ∀ (H : Heap) (locs : List Loc) (ls : Array Slot), f_X7_degree_J48 σ x1 x2 = some r5 → ST dC dI ad cA s σ H locs → lv_has ls 5 [(0, .ref (ad 45)), (1, .int a1), (2, .int a2), (4, .int x2)] → W p l e (RM 1 20) s m args below meth c H locs 0 0 Q (F0 m 48 ls [.int x1]) := by
          intro H locs ls hB hS hl
          unfold f_X7_degree_J48 at hB
          refine lv_aload_n hx hb dX7_degree_48 rfl (lv_at hl 0 rfl) ?_
          refine r_get (v := .ref (ad 46)) (C := RX7) (T := TX7) (N := 19) hx hb hts hin_X7 hown hK hS (by decide) e_45 rfl 0 (by decide) hk_f7 rfl rfl dX7_degree_49 ?_
          refine lv_bipush (v := (21 : Int32)) hx hb dX7_degree_52 (by decide) ?_
          refine lv_iload hx hb dX7_degree_54 (lv_at hl 3 rfl) ?_
          refine lv_iadd hx hb dX7_degree_56 ?_
          obtain ⟨h9, hB⟩ := gd_at hB
          refine r_iald hx hb hK hS h9 dX7_degree_57 ?_
          refine lv_goto (tgt := 62) hx hb dX7_degree_58 (by decide) ?_
          refine lv_iadd hx hb dX7_degree_62 ?_
          refine lv_topi (fun x10 ex10 => ?_)
          have hB := vl_at ex10 hB
          refine lv_istore_n (lv' := [(3, .int x10), (0, .ref (ad 45)), (1, .int a1), (2, .int a2), (4, .int x2)]) hx hb dX7_degree_63 rfl hl (by decide) rfl (fun ls hl => ?_)
          obtain ⟨x11, ex11⟩ : ∃ y : Int32, y = x2 + (1 : Int32) := ⟨_, rfl⟩
          have hB := vl_at ex11 hB
          refine lv_iinc (v := x11) (lv' := [(4, .int x11), (3, .int x10), (0, .ref (ad 45)), (1, .int a1), (2, .int a2)]) hx hb dX7_degree_64 hl (k := 4) rfl (by rw [ex11]; rfl) (by decide) rfl (fun ls hl => ?_)
          refine lv_goto (tgt := 5) hx hb dX7_degree_67 (by decide) ?_
          exact hI5 _ (Option.some.inj hB).symm H locs ls hS (lv_sub hl [2, 3, 4, 1, 0] rfl)
        refine lv_icmp_eq (tgt := 48) hx hb dX7_degree_31 (by decide) (fun c12 => ?_) (fun c12 => ?_)
        · have hB := it_t c12 hB
          exact hJ48  H locs ls hB hS (lv_sub hl [0, 1, 2, 4] rfl)
        · have hB := it_f c12 hB
          refine lv_aload_n hx hb dX7_degree_34 rfl (lv_at hl 0 rfl) ?_
          refine r_get (v := .ref (ad 46)) (C := RX7) (T := TX7) (N := 19) hx hb hts hin_X7 hown hK hS (by decide) e_45 rfl 0 (by decide) hk_f7 rfl rfl dX7_degree_35 ?_
          refine lv_bipush (v := (11 : Int32)) hx hb dX7_degree_38 (by decide) ?_
          refine lv_iload hx hb dX7_degree_40 (lv_at hl 4 rfl) ?_
          refine lv_iadd hx hb dX7_degree_42 ?_
          obtain ⟨h13, hB⟩ := gd_at hB
          refine r_iald hx hb hK hS h13 dX7_degree_43 ?_
          refine lv_iload_n hx hb dX7_degree_44 rfl (lv_at hl 1 rfl) ?_
          refine lv_icmp_ne (tgt := 61) hx hb dX7_degree_45 (by decide) (fun c14 => ?_) (fun c14 => ?_)
          · have hB := it_f c14 hB
            exact hJ61  H locs ls hB hS (lv_sub hl [0, 1, 2, 4] rfl)
          · have hB := it_t c14 hB
            exact hJ48  H locs ls hB hS (lv_sub hl [0, 1, 2, 4] rfl)
  · skip
    intro H locs ls hS hl
    have hS : ST dC dI ad cA s σ H locs := hS
    have hl : lv_has ls 5 [(3, .int t15)] := hl
    show W p l e (RM 1 20) s m args below meth c H locs 0 0 Q (F0 m 70 ls [])
    refine lv_iload_n hx hb dX7_degree_70 rfl (lv_at hl 0 rfl) ?_
    subst hQ
    exact r_iret hx hb hr hK hS (pz hB) hlocks dX7_degree_71
set_option maxHeartbeats 4000000 in
set_option maxRecDepth 100000 in
theorem c_X7_whole (l : Launch) (dC : Nat → ClassId) (dI : Nat → Nat → Nat) (ad : Nat → Nat) (cA : Nat → ClassId) (σ : Sg)  (z : Int32) (hB : f_X7_whole σ = some z) : Ki l dC dI ad cA yX7_whole wsX7_whole 1 20 [.ref (ad 45)] σ (z, σ) := by
  refine mk_i (cc := cX7_whole) (maxL := 3) (ret := (some .int)) (by decide) rfl (Nat.le_of_ble_eq_true rfl) ?_
  intro p e s m args below meth c Q H locs ls ⟨hx, hb, hr, hml, hown, hts, hlocks, hK, hN⟩ hQ hS hl
  have hown : s.vm.findClass RX7 = some m.cls := hown
  have hl : lv_has ls 3 [(0, .ref (ad 45))] := hl
  have hk_f7 := hts (.fieldLink RX7 7 "ChanceNetsModel" "rows" "[I") (by decide +kernel)
  have hin_X7 : ∀ w ∈ u_ws RX7 TX7 19, w ∈ wsX7_whole := by decide +kernel
  unfold f_X7_whole at hB
  refine lv_iconst (v := (0 : Int32)) hx hb dX7_whole_0 (by decide) ?_
  refine lv_istore_n (lv' := [(1, .int (0 : Int32)), (0, .ref (ad 45))]) hx hb dX7_whole_1 rfl hl (by decide) rfl (fun ls hl => ?_)
  refine lv_iconst (v := (0 : Int32)) hx hb dX7_whole_2 (by decide) ?_
  refine lv_istore_n (lv' := [(2, .int (0 : Int32)), (1, .int (0 : Int32)), (0, .ref (ad 45))]) hx hb dX7_whole_3 rfl hl (by decide) rfl (fun ls hl => ?_)
  obtain ⟨t8, ht8, hB⟩ := bi_at hB
  refine wl_W (body := fun a => f_X7_whole_B4 σ a.1 a.2) (Hd := fun a : Int32 × Int32 => ∀ (H : Heap) (locs : List Loc) (ls : Array Slot), ST dC dI ad cA s σ H locs → lv_has ls 3 [(0, .ref (ad 45)), (1, .int a.1), (2, .int a.2)] → W p l e (RM 1 20) s m args below meth c H locs 0 0 Q (F0 m 4 ls [])) (Ex := fun b : Int32 => ∀ (H : Heap) (locs : List Loc) (ls : Array Slot), ST dC dI ad cA s σ H locs → lv_has ls 3 [(1, .int b)] → W p l e (RM 1 20) s m args below meth c H locs 0 0 Q (F0 m 30 ls [])) ?_ FU _ t8 ht8 ?_ H locs ls hS (lv_sub hl [2, 1, 0] rfl)
  · intro a r4 hB hI4 hE4 H locs ls hS hl
    obtain ⟨x1, x2⟩ := a
    have hB : f_X7_whole_B4 σ x1 x2 = some r4 := hB
    unfold f_X7_whole_B4 at hB
    have hS : ST dC dI ad cA s σ H locs := hS
    have hl : lv_has ls 3 [(0, .ref (ad 45)), (1, .int x1), (2, .int x2)] := hl
    show W p l e (RM 1 20) s m args below meth c H locs 0 0 Q (F0 m 4 ls [])
    refine lv_iload_n hx hb dX7_whole_4 rfl (lv_at hl 2 rfl) ?_
    refine lv_aload_n hx hb dX7_whole_5 rfl (lv_at hl 0 rfl) ?_
    obtain ⟨t3, ht3, hB⟩ := bi_at hB
    refine r_ViP ⟨hx, hb, hml, hown, hts⟩ (c_X7_lines l dC dI ad cA σ t3 ht3) (cwV 0 hts gX7_whole_X7_lines rfl rfl rfl (by decide +kernel) ⟨Nat.le_of_ble_eq_true rfl, Nat.le_of_ble_eq_true rfl⟩) hK hN hS (by decide) e_45 rfl rfl hl.1 rfl (Nat.le_of_ble_eq_true rfl) dX7_whole_6 ⟨Nat.le_refl _, Nat.le_refl _⟩ (fun H locs hS => ?_)
    refine lv_icmp_ge (tgt := 30) hx hb dX7_whole_9 (by decide) (fun c4 => ?_) (fun c4 => ?_)
    · have hB := it_t c4 hB
      exact hE4 _ (Option.some.inj hB).symm H locs ls hS (lv_sub hl [1] rfl)
    · have hB := it_f c4 hB
      refine lv_iload_n hx hb dX7_whole_12 rfl (lv_at hl 1 rfl) ?_
      refine lv_aload_n hx hb dX7_whole_13 rfl (lv_at hl 0 rfl) ?_
      refine r_get (v := .ref (ad 46)) (C := RX7) (T := TX7) (N := 19) hx hb hts hin_X7 hown hK hS (by decide) e_45 rfl 0 (by decide) hk_f7 rfl rfl dX7_whole_14 ?_
      refine lv_bipush (v := (21 : Int32)) hx hb dX7_whole_17 (by decide) ?_
      refine lv_iload_n hx hb dX7_whole_19 rfl (lv_at hl 2 rfl) ?_
      refine lv_iadd hx hb dX7_whole_20 ?_
      obtain ⟨h5, hB⟩ := gd_at hB
      refine r_iald hx hb hK hS h5 dX7_whole_21 ?_
      refine lv_iadd hx hb dX7_whole_22 ?_
      refine lv_topi (fun x6 ex6 => ?_)
      have hB := vl_at ex6 hB
      refine lv_istore_n (lv' := [(1, .int x6), (0, .ref (ad 45)), (2, .int x2)]) hx hb dX7_whole_23 rfl hl (by decide) rfl (fun ls hl => ?_)
      obtain ⟨x7, ex7⟩ : ∃ y : Int32, y = x2 + (1 : Int32) := ⟨_, rfl⟩
      have hB := vl_at ex7 hB
      refine lv_iinc (v := x7) (lv' := [(2, .int x7), (1, .int x6), (0, .ref (ad 45))]) hx hb dX7_whole_24 hl (k := 2) rfl (by rw [ex7]; rfl) (by decide) rfl (fun ls hl => ?_)
      refine lv_goto (tgt := 4) hx hb dX7_whole_27 (by decide) ?_
      exact hI4 _ (Option.some.inj hB).symm H locs ls hS (lv_sub hl [2, 1, 0] rfl)
  · skip
    intro H locs ls hS hl
    have hS : ST dC dI ad cA s σ H locs := hS
    have hl : lv_has ls 3 [(1, .int t8)] := hl
    show W p l e (RM 1 20) s m args below meth c H locs 0 0 Q (F0 m 30 ls [])
    refine lv_iload_n hx hb dX7_whole_30 rfl (lv_at hl 0 rfl) ?_
    subst hQ
    exact r_iret hx hb hr hK hS (pz hB) hlocks dX7_whole_31
set_option maxHeartbeats 4000000 in
set_option maxRecDepth 100000 in
theorem c_X7_width (l : Launch) (dC : Nat → ClassId) (dI : Nat → Nat → Nat) (ad : Nat → Nat) (cA : Nat → ClassId) (σ : Sg) (a1 : Int32) (a2 : Int32) (z : Int32) (hB : f_X7_width σ a1 a2 = some z) : Ki l dC dI ad cA yX7_width wsX7_width 2 46 [.ref (ad 45), .int a1, .int a2] σ (z, σ) := by
  refine mk_i (cc := cX7_width) (maxL := 4) (ret := (some .int)) (by decide) rfl (Nat.le_of_ble_eq_true rfl) ?_
  intro p e s m args below meth c Q H locs ls ⟨hx, hb, hr, hml, hown, hts, hlocks, hK, hN⟩ hQ hS hl
  have hown : s.vm.findClass RX7 = some m.cls := hown
  have hl : lv_has ls 4 [(0, .ref (ad 45)), (1, .int a1), (2, .int a2)] := hl
  have hk_f7 := hts (.fieldLink RX7 7 "ChanceNetsModel" "rows" "[I") (by decide +kernel)
  have hin_X7 : ∀ w ∈ u_ws RX7 TX7 19, w ∈ wsX7_width := by decide +kernel
  unfold f_X7_width at hB
  refine lv_aload_n hx hb dX7_width_0 rfl (lv_at hl 0 rfl) ?_
  refine lv_iload_n hx hb dX7_width_1 rfl (lv_at hl 1 rfl) ?_
  obtain ⟨t1, ht1, hB⟩ := bi_at hB
  refine r_ViP ⟨hx, hb, hml, hown, hts⟩ (c_X7_isNode l dC dI ad cA σ a1 t1 ht1) (cwV 1 hts gX7_width_X7_isNode rfl rfl rfl (by decide +kernel) ⟨Nat.le_of_ble_eq_true rfl, Nat.le_of_ble_eq_true rfl⟩) hK hN hS (by decide) e_45 rfl rfl hl.1 rfl (Nat.le_of_ble_eq_true rfl) dX7_width_2 ⟨Nat.le_refl _, Nat.le_refl _⟩ (fun H locs hS => ?_)
  refine lv_if_eq (tgt := 16) hx hb dX7_width_5 (by decide) (fun c2 => ?_) (fun c2 => ?_)
  · have hB := it_t c2 hB
    refine lv_iconst (v := (-1 : Int32)) hx hb dX7_width_16 (by decide) ?_
    subst hQ
    exact r_iret hx hb hr hK hS (pz hB) hlocks dX7_width_17
  · have hB := it_f c2 hB
    refine lv_aload_n hx hb dX7_width_8 rfl (lv_at hl 0 rfl) ?_
    refine lv_iload_n hx hb dX7_width_9 rfl (lv_at hl 2 rfl) ?_
    obtain ⟨t3, ht3, hB⟩ := bi_at hB
    refine r_ViP ⟨hx, hb, hml, hown, hts⟩ (c_X7_isNode l dC dI ad cA σ a2 t3 ht3) (cwV 1 hts gX7_width_X7_isNode rfl rfl rfl (by decide +kernel) ⟨Nat.le_of_ble_eq_true rfl, Nat.le_of_ble_eq_true rfl⟩) hK hN hS (by decide) e_45 rfl rfl hl.1 rfl (Nat.le_of_ble_eq_true rfl) dX7_width_10 ⟨Nat.le_refl _, Nat.le_refl _⟩ (fun H locs hS => ?_)
    refine lv_if_ne (tgt := 18) hx hb dX7_width_13 (by decide) (fun c4 => ?_) (fun c4 => ?_)
    · have hB := it_f c4 hB
      refine lv_iload_n hx hb dX7_width_18 rfl (lv_at hl 1 rfl) ?_
      refine lv_iload_n hx hb dX7_width_19 rfl (lv_at hl 2 rfl) ?_
      refine lv_icmp_ne (tgt := 31) hx hb dX7_width_20 (by decide) (fun c5 => ?_) (fun c5 => ?_)
      · have hB := it_f c5 hB
        refine lv_aload_n hx hb dX7_width_31 rfl (lv_at hl 0 rfl) ?_
        refine lv_iconst (v := (0 : Int32)) hx hb dX7_width_32 (by decide) ?_
        refine lv_iload_n hx hb dX7_width_33 rfl (lv_at hl 1 rfl) ?_
        refine lv_iload_n hx hb dX7_width_34 rfl (lv_at hl 2 rfl) ?_
        obtain ⟨t6, ht6, hB⟩ := bi_at hB
        refine r_ViP ⟨hx, hb, hml, hown, hts⟩ (c_X7_lineOf l dC dI ad cA σ (0 : Int32) a1 a2 t6 ht6) (cwV 3 hts gX7_width_X7_lineOf rfl rfl rfl (by decide +kernel) ⟨Nat.le_of_ble_eq_true rfl, Nat.le_of_ble_eq_true rfl⟩) hK hN hS (by decide) e_45 rfl rfl hl.1 rfl (Nat.le_of_ble_eq_true rfl) dX7_width_35 ⟨Nat.le_refl _, Nat.le_refl _⟩ (fun H locs hS => ?_)
        refine lv_istore_n (lv' := [(3, .int t6), (0, .ref (ad 45)), (1, .int a1), (2, .int a2)]) hx hb dX7_width_38 rfl hl (by decide) rfl (fun ls hl => ?_)
        refine lv_iload_n hx hb dX7_width_39 rfl (lv_at hl 0 rfl) ?_
        refine lv_bipush (v := (-9 : Int32)) hx hb dX7_width_40 (by decide) ?_
        refine lv_icmp_ne (tgt := 49) hx hb dX7_width_42 (by decide) (fun c7 => ?_) (fun c7 => ?_)
        · have hB := it_f c7 hB
          refine lv_aload_n hx hb dX7_width_49 rfl (lv_at hl 1 rfl) ?_
          refine r_get (v := .ref (ad 46)) (C := RX7) (T := TX7) (N := 19) hx hb hts hin_X7 hown hK hS (by decide) e_45 rfl 0 (by decide) hk_f7 rfl rfl dX7_width_50 ?_
          refine lv_bipush (v := (21 : Int32)) hx hb dX7_width_53 (by decide) ?_
          refine lv_iload_n hx hb dX7_width_55 rfl (lv_at hl 0 rfl) ?_
          refine lv_iadd hx hb dX7_width_56 ?_
          obtain ⟨h8, hB⟩ := gd_at hB
          refine r_iald hx hb hK hS h8 dX7_width_57 ?_
          subst hQ
          exact r_iret hx hb hr hK hS (pz hB) hlocks dX7_width_58
        · have hB := it_t c7 hB
          refine lv_iconst (v := (0 : Int32)) hx hb dX7_width_45 (by decide) ?_
          refine lv_goto (tgt := 58) hx hb dX7_width_46 (by decide) ?_
          subst hQ
          exact r_iret hx hb hr hK hS (pz hB) hlocks dX7_width_58
      · have hB := it_t c5 hB
        refine lv_aload_n hx hb dX7_width_23 rfl (lv_at hl 0 rfl) ?_
        refine lv_iload_n hx hb dX7_width_24 rfl (lv_at hl 1 rfl) ?_
        refine lv_bipush (v := (-9 : Int32)) hx hb dX7_width_25 (by decide) ?_
        obtain ⟨t9, ht9, hB⟩ := bi_at hB
        refine r_ViP ⟨hx, hb, hml, hown, hts⟩ (c_X7_degree l dC dI ad cA σ a1 (-9 : Int32) t9 ht9) (cwV 2 hts gX7_width_X7_degree rfl rfl rfl (by decide +kernel) ⟨Nat.le_of_ble_eq_true rfl, Nat.le_of_ble_eq_true rfl⟩) hK hN hS (by decide) e_45 rfl rfl hl.1 rfl (Nat.le_of_ble_eq_true rfl) dX7_width_27 ⟨Nat.le_refl _, Nat.le_refl _⟩ (fun H locs hS => ?_)
        subst hQ
        exact r_iret hx hb hr hK hS (pz hB) hlocks dX7_width_30
    · have hB := it_t c4 hB
      refine lv_iconst (v := (-1 : Int32)) hx hb dX7_width_16 (by decide) ?_
      subst hQ
      exact r_iret hx hb hr hK hS (pz hB) hlocks dX7_width_17
set_option maxHeartbeats 4000000 in
set_option maxRecDepth 100000 in
theorem c_X7_notes (l : Launch) (dC : Nat → ClassId) (dI : Nat → Nat → Nat) (ad : Nat → Nat) (cA : Nat → ClassId) (σ : Sg)  (z : Sg) (hB : f_X7_notes σ = some z) : Kv l dC dI ad cA yX7_notes wsX7_notes 1 23 [.ref (ad 45)] σ z := by
  refine mk_v (cc := cX7_notes) (maxL := 2) (ret := none) (by decide) rfl (Nat.le_of_ble_eq_true rfl) ?_
  intro p e s m args below meth c Q H locs ls ⟨hx, hb, hr, hml, hown, hts, hlocks, hK, hN⟩ hQ hS hl
  have hown : s.vm.findClass RX7 = some m.cls := hown
  have hl : lv_has ls 2 [(0, .ref (ad 45))] := hl
  have hk_f101 := hts (.fieldLink RX7 101 "ChanceNetsModel" "undos" "I") (by decide +kernel)
  have hin_X7 : ∀ w ∈ u_ws RX7 TX7 19, w ∈ wsX7_notes := by decide +kernel
  have hk_f7 := hts (.fieldLink RX7 7 "ChanceNetsModel" "rows" "[I") (by decide +kernel)
  unfold f_X7_notes at hB
  refine lv_iconst (v := (0 : Int32)) hx hb dX7_notes_0 (by decide) ?_
  refine lv_istore_n (lv' := [(1, .int (0 : Int32)), (0, .ref (ad 45))]) hx hb dX7_notes_1 rfl hl (by decide) rfl (fun ls hl => ?_)
  obtain ⟨t10, ht10, hB⟩ := bi_at hB
  refine wl_W (body := fun a => f_X7_notes_B2 a.1 a.2) (Hd := fun a : Int32 × Sg => ∀ (H : Heap) (locs : List Loc) (ls : Array Slot), ST dC dI ad cA s a.2 H locs → lv_has ls 2 [(0, .ref (ad 45)), (1, .int a.1)] → W p l e (RM 1 23) s m args below meth c H locs 0 0 Q (F0 m 2 ls [])) (Ex := fun b : Sg => ∀ (H : Heap) (locs : List Loc) (ls : Array Slot), ST dC dI ad cA s b H locs → lv_has ls 2 [(0, .ref (ad 45))] → W p l e (RM 1 23) s m args below meth c H locs 0 0 Q (F0 m 42 ls [])) ?_ FU _ t10 ht10 ?_ H locs ls hS (lv_sub hl [1, 0] rfl)
  · intro a r2 hB hI2 hE2 H locs ls hS hl
    obtain ⟨x1, σ2⟩ := a
    have hB : f_X7_notes_B2 x1 σ2 = some r2 := hB
    unfold f_X7_notes_B2 at hB
    have hS : ST dC dI ad cA s σ2 H locs := hS
    have hl : lv_has ls 2 [(0, .ref (ad 45)), (1, .int x1)] := hl
    show W p l e (RM 1 23) s m args below meth c H locs 0 0 Q (F0 m 2 ls [])
    refine lv_iload_n hx hb dX7_notes_2 rfl (lv_at hl 1 rfl) ?_
    refine lv_sipush (v := (341 : Int32)) hx hb dX7_notes_3 (by decide) ?_
    refine lv_icmp_ge (tgt := 42) hx hb dX7_notes_6 (by decide) (fun c3 => ?_) (fun c3 => ?_)
    · have hB := it_t c3 hB
      exact hE2 _ (Option.some.inj hB).symm H locs ls hS (lv_sub hl [0] rfl)
    · have hB := it_f c3 hB
      refine lv_aload_n hx hb dX7_notes_9 rfl (lv_at hl 0 rfl) ?_
      refine r_get (v := .int (gI σ2 18)) (C := RX7) (T := TX7) (N := 19) hx hb hts hin_X7 hown hK hS (by decide) e_45 rfl 2 (by decide) hk_f101 rfl rfl dX7_notes_10 ?_
      refine lv_bipush (v := (12 : Int32)) hx hb dX7_notes_13 (by decide) ?_
      refine lv_icmp_ne (tgt := 42) hx hb dX7_notes_15 (by decide) (fun c4 => ?_) (fun c4 => ?_)
      · have hB := it_f c4 hB
        exact hE2 _ (Option.some.inj hB).symm H locs ls hS (lv_sub hl [0] rfl)
      · have hB := it_t c4 hB
        refine lv_aload_n hx hb dX7_notes_18 rfl (lv_at hl 0 rfl) ?_
        refine r_get (v := .ref (ad 46)) (C := RX7) (T := TX7) (N := 19) hx hb hts hin_X7 hown hK hS (by decide) e_45 rfl 0 (by decide) hk_f7 rfl rfl dX7_notes_19 ?_
        refine lv_bipush (v := (31 : Int32)) hx hb dX7_notes_22 (by decide) ?_
        refine lv_iload_n hx hb dX7_notes_24 rfl (lv_at hl 1 rfl) ?_
        refine lv_iadd hx hb dX7_notes_25 ?_
        refine lv_aload_n hx hb dX7_notes_26 rfl (lv_at hl 0 rfl) ?_
        refine r_get (v := .ref (ad 46)) (C := RX7) (T := TX7) (N := 19) hx hb hts hin_X7 hown hK hS (by decide) e_45 rfl 0 (by decide) hk_f7 rfl rfl dX7_notes_27 ?_
        refine lv_bipush (v := (62 : Int32)) hx hb dX7_notes_30 (by decide) ?_
        refine lv_iload_n hx hb dX7_notes_32 rfl (lv_at hl 1 rfl) ?_
        refine lv_iadd hx hb dX7_notes_33 ?_
        obtain ⟨h5, hB⟩ := gd_at hB
        refine r_iald hx hb hK hS h5 dX7_notes_34 ?_
        refine lv_topi (fun x6 ex6 => ?_)
        have hB := vl_at ex6 hB
        obtain ⟨h7, hB⟩ := gd_at hB
        refine r_iast hx hb hK hS h7 dX7_notes_35 (fun H locs hS => ?_)
        obtain ⟨σ8, eσ8⟩ : ∃ t : Sg, t = pA σ2 46 ((31 : Int32) + x1).toNatClampNeg x6 := ⟨_, rfl⟩
        rw [← eσ8] at hS
        have hB := vl_at eσ8 hB
        obtain ⟨x9, ex9⟩ : ∃ y : Int32, y = x1 + (1 : Int32) := ⟨_, rfl⟩
        have hB := vl_at ex9 hB
        refine lv_iinc (v := x9) (lv' := [(1, .int x9), (0, .ref (ad 45))]) hx hb dX7_notes_36 hl (k := 1) rfl (by rw [ex9]; rfl) (by decide) rfl (fun ls hl => ?_)
        refine lv_goto (tgt := 2) hx hb dX7_notes_39 (by decide) ?_
        exact hI2 _ (Option.some.inj hB).symm H locs ls hS (lv_sub hl [1, 0] rfl)
  · skip
    intro H locs ls hS hl
    have hS : ST dC dI ad cA s t10 H locs := hS
    have hl : lv_has ls 2 [(0, .ref (ad 45))] := hl
    show W p l e (RM 1 23) s m args below meth c H locs 0 0 Q (F0 m 42 ls [])
    refine lv_aload_n hx hb dX7_notes_42 rfl (lv_at hl 0 rfl) ?_
    refine lv_dup hx hb dX7_notes_43 rfl ?_
    refine r_get (v := .int (gI t10 18)) (C := RX7) (T := TX7) (N := 19) hx hb hts hin_X7 hown hK hS (by decide) e_45 rfl 2 (by decide) hk_f101 rfl rfl dX7_notes_44 ?_
    refine lv_aload_n hx hb dX7_notes_47 rfl (lv_at hl 0 rfl) ?_
    refine r_get (v := .int (gI t10 18)) (C := RX7) (T := TX7) (N := 19) hx hb hts hin_X7 hown hK hS (by decide) e_45 rfl 2 (by decide) hk_f101 rfl rfl dX7_notes_48 ?_
    refine lv_bipush (v := (12 : Int32)) hx hb dX7_notes_51 (by decide) ?_
    have hJ61 : ∀ (x11 : Int32) (H : Heap) (locs : List Loc) (ls : Array Slot), f_X7_notes_J61 t10 x11 = some z → ST dC dI ad cA s t10 H locs → lv_has ls 2 [(0, .ref (ad 45))] → W p l e (RM 1 23) s m args below meth c H locs 0 0 Q (F0 m 61 ls [.int x11, .int (gI t10 18), .ref (ad 45)]) := by
      intro x11 H locs ls hB hS hl
      unfold f_X7_notes_J61 at hB
      refine lv_isub hx hb dX7_notes_61 ?_
      refine lv_topi (fun x12 ex12 => ?_)
      have hB := vl_at ex12 hB
      refine r_put (σ' := pI t10 18 x12) (v := .int x12) (C := RX7) (T := TX7) (N := 19) hx hb hts hin_X7 tyX7 tyX7_ok nmX7 hown hK hS (by decide) e_45 rfl 2 (by decide) hk_f101 rfl rfl rfl rfl (Nat.le_of_ble_eq_true rfl) (fun d hd h => eo d hd h) rfl dX7_notes_62 (fun H locs hS => ?_)
      obtain ⟨σ13, eσ13⟩ : ∃ t : Sg, t = pI t10 18 x12 := ⟨_, rfl⟩
      rw [← eσ13] at hS
      have hB := vl_at eσ13 hB
      refine lv_aload_n hx hb dX7_notes_65 rfl (lv_at hl 0 rfl) ?_
      refine lv_iconst (v := (0 : Int32)) hx hb dX7_notes_66 (by decide) ?_
      refine lv_bipush (v := (31 : Int32)) hx hb dX7_notes_67 (by decide) ?_
      refine lv_bipush (v := (31 : Int32)) hx hb dX7_notes_69 (by decide) ?_
      refine lv_aload_n hx hb dX7_notes_71 rfl (lv_at hl 0 rfl) ?_
      refine r_get (v := .int (gI σ13 18)) (C := RX7) (T := TX7) (N := 19) hx hb hts hin_X7 hown hK hS (by decide) e_45 rfl 2 (by decide) hk_f101 rfl rfl dX7_notes_72 ?_
      refine lv_imul hx hb dX7_notes_75 ?_
      refine lv_iadd hx hb dX7_notes_76 ?_
      obtain ⟨t14, ht14, hB⟩ := bi_at hB
      refine r_Vv ⟨hx, hb, hml, hown, hts⟩ (c_X7_copyRow l dC dI ad cA σ13 (0 : Int32) ((31 : Int32) + ((31 : Int32) * (gI σ13 18))) t14 ht14) (cwV 2 hts gX7_notes_X7_copyRow rfl rfl rfl (by decide +kernel) ⟨Nat.le_of_ble_eq_true rfl, Nat.le_of_ble_eq_true rfl⟩) hK hN hS (by decide) e_45 rfl rfl hl.1 rfl (Nat.le_of_ble_eq_true rfl) dX7_notes_77 ⟨Nat.le_refl _, Nat.le_refl _⟩ (fun H locs hS => ?_)
      refine lv_aload_n hx hb dX7_notes_80 rfl (lv_at hl 0 rfl) ?_
      refine lv_dup hx hb dX7_notes_81 rfl ?_
      refine r_get (v := .int (gI t14 18)) (C := RX7) (T := TX7) (N := 19) hx hb hts hin_X7 hown hK hS (by decide) e_45 rfl 2 (by decide) hk_f101 rfl rfl dX7_notes_82 ?_
      refine lv_iconst (v := (1 : Int32)) hx hb dX7_notes_85 (by decide) ?_
      refine lv_iadd hx hb dX7_notes_86 ?_
      refine lv_topi (fun x15 ex15 => ?_)
      have hB := vl_at ex15 hB
      refine r_put (σ' := pI t14 18 x15) (v := .int x15) (C := RX7) (T := TX7) (N := 19) hx hb hts hin_X7 tyX7 tyX7_ok nmX7 hown hK hS (by decide) e_45 rfl 2 (by decide) hk_f101 rfl rfl rfl rfl (Nat.le_of_ble_eq_true rfl) (fun d hd h => eo d hd h) rfl dX7_notes_87 (fun H locs hS => ?_)
      obtain ⟨σ16, eσ16⟩ : ∃ t : Sg, t = pI t14 18 x15 := ⟨_, rfl⟩
      rw [← eσ16] at hS
      have hB := vl_at eσ16 hB
      subst hQ
      exact r_vret hx hb hr hK hS hB hlocks dX7_notes_90
    refine lv_icmp_ne (tgt := 60) hx hb dX7_notes_53 (by decide) (fun c17 => ?_) (fun c17 => ?_)
    · have hB := it_f c17 hB
      refine lv_iconst (v := (0 : Int32)) hx hb dX7_notes_60 (by decide) ?_
      exact hJ61 (0 : Int32) H locs ls hB hS (lv_sub hl [0] rfl)
    · have hB := it_t c17 hB
      refine lv_iconst (v := (1 : Int32)) hx hb dX7_notes_56 (by decide) ?_
      refine lv_goto (tgt := 61) hx hb dX7_notes_57 (by decide) ?_
      exact hJ61 (1 : Int32) H locs ls hB hS (lv_sub hl [0] rfl)
set_option maxHeartbeats 4000000 in
set_option maxRecDepth 100000 in
theorem c_X7_lays (l : Launch) (dC : Nat → ClassId) (dI : Nat → Nat → Nat) (ad : Nat → Nat) (cA : Nat → ClassId) (σ : Sg) (a1 : Int32) (a2 : Int32) (a3 : Int32) (z : Int32 × Sg) (hB : f_X7_lays σ a1 a2 a3 = some z) : Ki l dC dI ad cA yX7_lays wsX7_lays 2 46 [.ref (ad 45), .int a1, .int a2, .int a3] σ z := by
  refine mk_i (cc := cX7_lays) (maxL := 4) (ret := (some .int)) (by decide) rfl (Nat.le_of_ble_eq_true rfl) ?_
  intro p e s m args below meth c Q H locs ls ⟨hx, hb, hr, hml, hown, hts, hlocks, hK, hN⟩ hQ hS hl
  have hown : s.vm.findClass RX7 = some m.cls := hown
  have hl : lv_has ls 4 [(0, .ref (ad 45)), (1, .int a1), (2, .int a2), (3, .int a3)] := hl
  have hk_c123 := hts (.constantLong RX7 123 (9)) (by decide +kernel)
  unfold f_X7_lays at hB
  refine lv_aload_n hx hb dX7_lays_0 rfl (lv_at hl 0 rfl) ?_
  refine lv_iload_n hx hb dX7_lays_1 rfl (lv_at hl 1 rfl) ?_
  obtain ⟨t1, ht1, hB⟩ := bi_at hB
  refine r_ViP ⟨hx, hb, hml, hown, hts⟩ (c_X7_isNode l dC dI ad cA σ a1 t1 ht1) (cwV 1 hts gX7_lays_X7_isNode rfl rfl rfl (by decide +kernel) ⟨Nat.le_of_ble_eq_true rfl, Nat.le_of_ble_eq_true rfl⟩) hK hN hS (by decide) e_45 rfl rfl hl.1 rfl (Nat.le_of_ble_eq_true rfl) dX7_lays_2 ⟨Nat.le_refl _, Nat.le_refl _⟩ (fun H locs hS => ?_)
  refine lv_if_eq (tgt := 33) hx hb dX7_lays_5 (by decide) (fun c2 => ?_) (fun c2 => ?_)
  · have hB := it_t c2 hB
    refine lv_iconst (v := (-1 : Int32)) hx hb dX7_lays_33 (by decide) ?_
    subst hQ
    exact r_iret hx hb hr hK hS hB hlocks dX7_lays_34
  · have hB := it_f c2 hB
    refine lv_aload_n hx hb dX7_lays_8 rfl (lv_at hl 0 rfl) ?_
    refine lv_iload_n hx hb dX7_lays_9 rfl (lv_at hl 2 rfl) ?_
    obtain ⟨t3, ht3, hB⟩ := bi_at hB
    refine r_ViP ⟨hx, hb, hml, hown, hts⟩ (c_X7_isNode l dC dI ad cA σ a2 t3 ht3) (cwV 1 hts gX7_lays_X7_isNode rfl rfl rfl (by decide +kernel) ⟨Nat.le_of_ble_eq_true rfl, Nat.le_of_ble_eq_true rfl⟩) hK hN hS (by decide) e_45 rfl rfl hl.1 rfl (Nat.le_of_ble_eq_true rfl) dX7_lays_10 ⟨Nat.le_refl _, Nat.le_refl _⟩ (fun H locs hS => ?_)
    refine lv_if_eq (tgt := 33) hx hb dX7_lays_13 (by decide) (fun c4 => ?_) (fun c4 => ?_)
    · have hB := it_t c4 hB
      refine lv_iconst (v := (-1 : Int32)) hx hb dX7_lays_33 (by decide) ?_
      subst hQ
      exact r_iret hx hb hr hK hS hB hlocks dX7_lays_34
    · have hB := it_f c4 hB
      refine lv_iload_n hx hb dX7_lays_16 rfl (lv_at hl 1 rfl) ?_
      refine lv_iload_n hx hb dX7_lays_17 rfl (lv_at hl 2 rfl) ?_
      refine lv_icmp_eq (tgt := 33) hx hb dX7_lays_18 (by decide) (fun c5 => ?_) (fun c5 => ?_)
      · have hB := it_t c5 hB
        refine lv_iconst (v := (-1 : Int32)) hx hb dX7_lays_33 (by decide) ?_
        subst hQ
        exact r_iret hx hb hr hK hS hB hlocks dX7_lays_34
      · have hB := it_f c5 hB
        refine lv_iload_n hx hb dX7_lays_21 rfl (lv_at hl 3 rfl) ?_
        refine lv_i2l hx hb dX7_lays_22 rfl ?_
        refine lv_lconst (v := (1 : Int64)) hx hb dX7_lays_23 (by decide) ?_
        refine lv_ldc2 (v := (9 : Int64)) hx hb hown hk_c123 dX7_lays_24 ?_
        obtain ⟨t6, ht6, hB⟩ := bi_at hB
        refine r_SiP ⟨hx, hb, hml, hown, hts⟩ (c_X7_in l dC dI ad cA σ a3.toInt64 (1 : Int64) (9 : Int64) t6 ht6) (va_cwS 3 hts gX7_lays_X7_in rfl rfl rfl (by decide +kernel) ⟨Nat.le_of_ble_eq_true rfl, Nat.le_of_ble_eq_true rfl⟩) hK hN hS rfl hl.1 rfl (Nat.le_of_ble_eq_true rfl) dX7_lays_27 ⟨Nat.le_refl _, Nat.le_refl _⟩ (fun H locs hS => ?_)
        refine lv_if_ne (tgt := 35) hx hb dX7_lays_30 (by decide) (fun c7 => ?_) (fun c7 => ?_)
        · have hB := it_f c7 hB
          refine lv_aload_n hx hb dX7_lays_35 rfl (lv_at hl 0 rfl) ?_
          refine lv_iconst (v := (0 : Int32)) hx hb dX7_lays_36 (by decide) ?_
          refine lv_iload_n hx hb dX7_lays_37 rfl (lv_at hl 1 rfl) ?_
          refine lv_iload_n hx hb dX7_lays_38 rfl (lv_at hl 2 rfl) ?_
          obtain ⟨t8, ht8, hB⟩ := bi_at hB
          refine r_ViP ⟨hx, hb, hml, hown, hts⟩ (c_X7_lineOf l dC dI ad cA σ (0 : Int32) a1 a2 t8 ht8) (cwV 3 hts gX7_lays_X7_lineOf rfl rfl rfl (by decide +kernel) ⟨Nat.le_of_ble_eq_true rfl, Nat.le_of_ble_eq_true rfl⟩) hK hN hS (by decide) e_45 rfl rfl hl.1 rfl (Nat.le_of_ble_eq_true rfl) dX7_lays_39 ⟨Nat.le_refl _, Nat.le_refl _⟩ (fun H locs hS => ?_)
          refine lv_bipush (v := (-9 : Int32)) hx hb dX7_lays_42 (by decide) ?_
          refine lv_icmp_eq (tgt := 50) hx hb dX7_lays_44 (by decide) (fun c9 => ?_) (fun c9 => ?_)
          · have hB := it_t c9 hB
            refine lv_aload_n hx hb dX7_lays_50 rfl (lv_at hl 0 rfl) ?_
            obtain ⟨t10, ht10, hB⟩ := bi_at hB
            refine r_ViP ⟨hx, hb, hml, hown, hts⟩ (c_X7_lines l dC dI ad cA σ t10 ht10) (cwV 0 hts gX7_lays_X7_lines rfl rfl rfl (by decide +kernel) ⟨Nat.le_of_ble_eq_true rfl, Nat.le_of_ble_eq_true rfl⟩) hK hN hS (by decide) e_45 rfl rfl hl.1 rfl (Nat.le_of_ble_eq_true rfl) dX7_lays_51 ⟨Nat.le_refl _, Nat.le_refl _⟩ (fun H locs hS => ?_)
            refine lv_bipush (v := (10 : Int32)) hx hb dX7_lays_54 (by decide) ?_
            refine lv_icmp_ne (tgt := 62) hx hb dX7_lays_56 (by decide) (fun c11 => ?_) (fun c11 => ?_)
            · have hB := it_f c11 hB
              refine lv_aload_n hx hb dX7_lays_62 rfl (lv_at hl 0 rfl) ?_
              obtain ⟨t12, ht12, hB⟩ := bi_at hB
              refine r_Vv ⟨hx, hb, hml, hown, hts⟩ (c_X7_notes l dC dI ad cA σ t12 ht12) (cwV 0 hts gX7_lays_X7_notes rfl rfl rfl (by decide +kernel) ⟨Nat.le_of_ble_eq_true rfl, Nat.le_of_ble_eq_true rfl⟩) hK hN hS (by decide) e_45 rfl rfl hl.1 rfl (Nat.le_of_ble_eq_true rfl) dX7_lays_63 ⟨Nat.le_refl _, Nat.le_refl _⟩ (fun H locs hS => ?_)
              refine lv_aload_n hx hb dX7_lays_66 rfl (lv_at hl 0 rfl) ?_
              refine lv_iconst (v := (0 : Int32)) hx hb dX7_lays_67 (by decide) ?_
              refine lv_iload_n hx hb dX7_lays_68 rfl (lv_at hl 1 rfl) ?_
              refine lv_iload_n hx hb dX7_lays_69 rfl (lv_at hl 2 rfl) ?_
              refine lv_iload_n hx hb dX7_lays_70 rfl (lv_at hl 3 rfl) ?_
              obtain ⟨t13, ht13, hB⟩ := bi_at hB
              refine r_Vv ⟨hx, hb, hml, hown, hts⟩ (c_X7_adds l dC dI ad cA t12 (0 : Int32) a1 a2 a3 t13 ht13) (cwV 4 hts gX7_lays_X7_adds rfl rfl rfl (by decide +kernel) ⟨Nat.le_of_ble_eq_true rfl, Nat.le_of_ble_eq_true rfl⟩) hK hN hS (by decide) e_45 rfl rfl hl.1 rfl (Nat.le_of_ble_eq_true rfl) dX7_lays_71 ⟨Nat.le_refl _, Nat.le_refl _⟩ (fun H locs hS => ?_)
              refine lv_aload_n hx hb dX7_lays_74 rfl (lv_at hl 0 rfl) ?_
              obtain ⟨t14, ht14, hB⟩ := bi_at hB
              refine r_ViP ⟨hx, hb, hml, hown, hts⟩ (c_X7_lines l dC dI ad cA t13 t14 ht14) (cwV 0 hts gX7_lays_X7_lines rfl rfl rfl (by decide +kernel) ⟨Nat.le_of_ble_eq_true rfl, Nat.le_of_ble_eq_true rfl⟩) hK hN hS (by decide) e_45 rfl rfl hl.1 rfl (Nat.le_of_ble_eq_true rfl) dX7_lays_75 ⟨Nat.le_refl _, Nat.le_refl _⟩ (fun H locs hS => ?_)
              subst hQ
              exact r_iret hx hb hr hK hS hB hlocks dX7_lays_78
            · have hB := it_t c11 hB
              refine lv_bipush (v := (-3 : Int32)) hx hb dX7_lays_59 (by decide) ?_
              subst hQ
              exact r_iret hx hb hr hK hS hB hlocks dX7_lays_61
          · have hB := it_f c9 hB
            refine lv_bipush (v := (-2 : Int32)) hx hb dX7_lays_47 (by decide) ?_
            subst hQ
            exact r_iret hx hb hr hK hS hB hlocks dX7_lays_49
        · have hB := it_t c7 hB
          refine lv_iconst (v := (-1 : Int32)) hx hb dX7_lays_33 (by decide) ?_
          subst hQ
          exact r_iret hx hb hr hK hS hB hlocks dX7_lays_34
