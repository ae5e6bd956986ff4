set_option maxHeartbeats 4000000 in
set_option maxRecDepth 100000 in
theorem c_X4_tells (l : Launch) (dC : Nat → ClassId) (dI : Nat → Nat → Nat) (ad : Nat → Nat) (cA : Nat → ClassId) (σ : Sg) (kn : Nat) (hkn : kn < 5) (z : Int32 × Sg) (hB : f_X4_tells σ kn = some z) : Ki l dC dI ad cA yX4_tells wsX4_tells 5 110 [.ref (ad 1), .ref (ad (3 + 4 * kn))] σ z := by
  refine mk_i (cc := cX4_tells) (maxL := 3) (ret := (some .boolean)) (by decide) rfl (Nat.le_of_ble_eq_true rfl) ?_
  intro p e s m args below meth c Q H locs ls ⟨hx, hb, hr, hml, hown, hts, hlocks, hK, hN⟩ hQ hS hl
  have hown : s.vm.findClass RX4 = some m.cls := hown
  have hl : lv_has ls 3 [(0, .ref (ad 1)), (1, .ref (ad (3 + 4 * kn)))] := hl
  have hk_f19 := hts (.fieldLink RX4 19 "ChanceNets$Text" "place" "I") (by decide +kernel)
  have hin_X4 : ∀ w ∈ u_ws RX4 TX4 4, w ∈ wsX4_tells := by decide +kernel
  have hk_f22 := hts (.fieldLink RX4 22 "ChanceNets$Text" "items" "I") (by decide +kernel)
  have hk_f15 := hts (.fieldLink RX4 15 "ChanceNets$Text" "length" "I") (by decide +kernel)
  unfold f_X4_tells at hB
  refine lv_aload_n hx hb dX4_tells_0 rfl (lv_at hl 0 rfl) ?_
  refine lv_iconst (v := (0 : Int32)) hx hb dX4_tells_1 (by decide) ?_
  refine r_put (σ' := pI σ 2 (0 : Int32)) (v := .int (0 : Int32)) (C := RX4) (T := TX4) (N := 4) hx hb hts hin_X4 tyX4 tyX4_ok nmX4 hown hK hS (by decide) e_1 rfl 2 (by decide) hk_f19 rfl rfl rfl rfl (Nat.le_of_ble_eq_true rfl) (fun d hd h => eo d hd h) rfl dX4_tells_2 (fun H locs hS => ?_)
  obtain ⟨σ1, eσ1⟩ : ∃ t : Sg, t = pI σ 2 (0 : Int32) := ⟨_, rfl⟩
  rw [← eσ1] at hS
  have hB := vl_at eσ1 hB
  refine lv_aload_n hx hb dX4_tells_5 rfl (lv_at hl 0 rfl) ?_
  refine lv_iconst (v := (0 : Int32)) hx hb dX4_tells_6 (by decide) ?_
  refine r_put (σ' := pI σ1 3 (0 : Int32)) (v := .int (0 : Int32)) (C := RX4) (T := TX4) (N := 4) hx hb hts hin_X4 tyX4 tyX4_ok nmX4 hown hK hS (by decide) e_1 rfl 3 (by decide) hk_f22 rfl rfl rfl rfl (Nat.le_of_ble_eq_true rfl) (fun d hd h => eo d hd h) rfl dX4_tells_7 (fun H locs hS => ?_)
  obtain ⟨σ2, eσ2⟩ : ∃ t : Sg, t = pI σ1 3 (0 : Int32) := ⟨_, rfl⟩
  rw [← eσ2] at hS
  have hB := vl_at eσ2 hB
  refine lv_aload_n hx hb dX4_tells_10 rfl (lv_at hl 1 rfl) ?_
  refine lv_iconst (v := (2 : Int32)) hx hb dX4_tells_11 (by decide) ?_
  obtain ⟨t3, ht3, hB⟩ := bi_at hB
  refine r_Vv ⟨hx, hb, hml, hown, hts⟩ (c_X1_empty l dC dI ad cA σ2 kn hkn (2 : Int32) t3 ht3) (cwV 1 hts gX4_tells_X1_empty rfl rfl rfl (by decide +kernel) ⟨Nat.le_of_ble_eq_true rfl, Nat.le_of_ble_eq_true rfl⟩) hK hN hS (by omega) (e_net (k := kn) hkn) rfl rfl hl.1 rfl (Nat.le_of_ble_eq_true rfl) dX4_tells_12 ⟨Nat.le_refl _, Nat.le_refl _⟩ (fun H locs hS => ?_)
  refine lv_aload_n hx hb dX4_tells_15 rfl (lv_at hl 0 rfl) ?_
  obtain ⟨t4, ht4, hB⟩ := bi_at hB
  refine r_Vv ⟨hx, hb, hml, hown, hts⟩ (c_X4_skipBlanks l dC dI ad cA t3 t4 ht4) (cwV 0 hts gX4_tells_X4_skipBlanks rfl rfl rfl (by decide +kernel) ⟨Nat.le_of_ble_eq_true rfl, Nat.le_of_ble_eq_true rfl⟩) hK hN hS (by decide) e_1 rfl rfl hl.1 rfl (Nat.le_of_ble_eq_true rfl) dX4_tells_16 ⟨Nat.le_refl _, Nat.le_refl _⟩ (fun H locs hS => ?_)
  refine lv_iconst (v := (0 : Int32)) hx hb dX4_tells_19 (by decide) ?_
  refine lv_istore_n (lv' := [(2, .int (0 : Int32)), (0, .ref (ad 1)), (1, .ref (ad (3 + 4 * kn)))]) hx hb dX4_tells_20 rfl hl (by decide) rfl (fun ls hl => ?_)
  obtain ⟨t15, ht15, hB⟩ := bi_at hB
  refine wl_W (body := fun a => f_X4_tells_B21 kn a.1 a.2) (Hd := fun a : Int32 × Sg => ∀ (H : Heap) (locs : List Loc) (ls : Array Slot), ST dC dI ad cA s a.2 H locs → lv_has ls 3 [(0, .ref (ad 1)), (1, .ref (ad (3 + 4 * kn))), (2, .int a.1)] → W p l e (RM 5 110) s m args below meth c H locs 0 0 Q (F0 m 21 ls [])) (Ex := fun b : (Sg) ⊕ (Int32 × Sg) => Sum.elim (fun b : Sg => ∀ (H : Heap) (locs : List Loc) (ls : Array Slot), ST dC dI ad cA s b H locs → lv_has ls 3 [] → W p l e (RM 5 110) s m args below meth c H locs 0 0 Q (F0 m 68 ls [])) (fun v => some v = some z) b) ?_ FU _ t15 ht15 ?_ H locs ls hS (lv_sub hl [1, 2, 0] rfl)
  · intro a r21 hB hI21 hE21 H locs ls hS hl
    obtain ⟨x5, σ6⟩ := a
    have hB : f_X4_tells_B21 kn x5 σ6 = some r21 := hB
    unfold f_X4_tells_B21 at hB
    have hS : ST dC dI ad cA s σ6 H locs := hS
    have hl : lv_has ls 3 [(0, .ref (ad 1)), (1, .ref (ad (3 + 4 * kn))), (2, .int x5)] := hl
    show W p l e (RM 5 110) s m args below meth c H locs 0 0 Q (F0 m 21 ls [])
    refine lv_iload_n hx hb dX4_tells_21 rfl (lv_at hl 2 rfl) ?_
    refine lv_bipush (v := (80 : Int32)) hx hb dX4_tells_22 (by decide) ?_
    refine lv_icmp_ge (tgt := 68) hx hb dX4_tells_24 (by decide) (fun c7 => ?_) (fun c7 => ?_)
    · have hB := it_t c7 hB
      exact hE21 _ (Option.some.inj hB).symm H locs ls hS (lv_sub hl [] rfl)
    · have hB := it_f c7 hB
      refine lv_aload_n hx hb dX4_tells_27 rfl (lv_at hl 0 rfl) ?_
      refine r_get (v := .int (gI σ6 2)) (C := RX4) (T := TX4) (N := 4) hx hb hts hin_X4 hown hK hS (by decide) e_1 rfl 2 (by decide) hk_f19 rfl rfl dX4_tells_28 ?_
      refine lv_aload_n hx hb dX4_tells_31 rfl (lv_at hl 0 rfl) ?_
      refine r_get (v := .int (gI σ6 1)) (C := RX4) (T := TX4) (N := 4) hx hb hts hin_X4 hown hK hS (by decide) e_1 rfl 1 (by decide) hk_f15 rfl rfl dX4_tells_32 ?_
      refine lv_icmp_ge (tgt := 68) hx hb dX4_tells_35 (by decide) (fun c8 => ?_) (fun c8 => ?_)
      · have hB := it_t c8 hB
        exact hE21 _ (Option.some.inj hB).symm H locs ls hS (lv_sub hl [] rfl)
      · have hB := it_f c8 hB
        refine lv_aload_n hx hb dX4_tells_38 rfl (lv_at hl 0 rfl) ?_
        refine lv_aload_n hx hb dX4_tells_39 rfl (lv_at hl 1 rfl) ?_
        obtain ⟨t9, ht9, hB⟩ := bi_at hB
        refine r_Vi ⟨hx, hb, hml, hown, hts⟩ (c_X4_tellsItem l dC dI ad cA σ6 kn hkn t9 ht9) (cwV 1 hts gX4_tells_X4_tellsItem rfl rfl rfl (by decide +kernel) ⟨Nat.le_of_ble_eq_true rfl, Nat.le_of_ble_eq_true rfl⟩) hK hN hS (by decide) e_1 rfl rfl hl.1 rfl (Nat.le_of_ble_eq_true rfl) dX4_tells_40 ⟨Nat.le_refl _, Nat.le_refl _⟩ (fun H locs hS => ?_)
        refine lv_if_ne (tgt := 48) hx hb dX4_tells_43 (by decide) (fun c10 => ?_) (fun c10 => ?_)
        · have hB := it_f c10 hB
          refine lv_aload_n hx hb dX4_tells_48 rfl (lv_at hl 0 rfl) ?_
          refine lv_dup hx hb dX4_tells_49 rfl ?_
          refine r_get (v := .int (gI t9.2 3)) (C := RX4) (T := TX4) (N := 4) hx hb hts hin_X4 hown hK hS (by decide) e_1 rfl 3 (by decide) hk_f22 rfl rfl dX4_tells_50 ?_
          refine lv_iconst (v := (1 : Int32)) hx hb dX4_tells_53 (by decide) ?_
          refine lv_iadd hx hb dX4_tells_54 ?_
          refine lv_topi (fun x11 ex11 => ?_)
          have hB := vl_at ex11 hB
          refine r_put (σ' := pI t9.2 3 x11) (v := .int x11) (C := RX4) (T := TX4) (N := 4) hx hb hts hin_X4 tyX4 tyX4_ok nmX4 hown hK hS (by decide) e_1 rfl 3 (by decide) hk_f22 rfl rfl rfl rfl (Nat.le_of_ble_eq_true rfl) (fun d hd h => eo d hd h) rfl dX4_tells_55 (fun H locs hS => ?_)
          obtain ⟨σ12, eσ12⟩ : ∃ t : Sg, t = pI t9.2 3 x11 := ⟨_, rfl⟩
          rw [← eσ12] at hS
          have hB := vl_at eσ12 hB
          refine lv_aload_n hx hb dX4_tells_58 rfl (lv_at hl 0 rfl) ?_
          obtain ⟨t13, ht13, hB⟩ := bi_at hB
          refine r_Vv ⟨hx, hb, hml, hown, hts⟩ (c_X4_skipBlanks l dC dI ad cA σ12 t13 ht13) (cwV 0 hts gX4_tells_X4_skipBlanks rfl rfl rfl (by decide +kernel) ⟨Nat.le_of_ble_eq_true rfl, Nat.le_of_ble_eq_true rfl⟩) hK hN hS (by decide) e_1 rfl rfl hl.1 rfl (Nat.le_of_ble_eq_true rfl) dX4_tells_59 ⟨Nat.le_refl _, Nat.le_refl _⟩ (fun H locs hS => ?_)
          obtain ⟨x14, ex14⟩ : ∃ y : Int32, y = x5 + (1 : Int32) := ⟨_, rfl⟩
          have hB := vl_at ex14 hB
          refine lv_iinc (v := x14) (lv' := [(2, .int x14), (0, .ref (ad 1)), (1, .ref (ad (3 + 4 * kn)))]) hx hb dX4_tells_62 hl (k := 2) rfl (by rw [ex14]; rfl) (by decide) rfl (fun ls hl => ?_)
          refine lv_goto (tgt := 21) hx hb dX4_tells_65 (by decide) ?_
          exact hI21 _ (Option.some.inj hB).symm H locs ls hS (lv_sub hl [1, 2, 0] rfl)
        · have hB := it_t c10 hB
          refine lv_iconst (v := (0 : Int32)) hx hb dX4_tells_46 (by decide) ?_
          subst hQ
          exact r_zret hx hb hr hK hS rfl (hE21 _ (Option.some.inj hB).symm) hlocks dX4_tells_47
  · rcases t15 with t15 | v
    · rw [Sum.elim_inl] at hB
      intro H locs ls hS hl
      have hS : ST dC dI ad cA s t15 H locs := hS
      have hl : lv_has ls 3 [] := hl
      show W p l e (RM 5 110) s m args below meth c H locs 0 0 Q (F0 m 68 ls [])
      refine lv_iconst (v := (1 : Int32)) hx hb dX4_tells_68 (by decide) ?_
      subst hQ
      exact r_zret hx hb hr hK hS rfl hB hlocks dX4_tells_69
    · exact hB
set_option maxHeartbeats 4000000 in
set_option maxRecDepth 100000 in
theorem c_X1_copyFrom (l : Launch) (dC : Nat → ClassId) (dI : Nat → Nat → Nat) (ad : Nat → Nat) (cA : Nat → ClassId) (σ : Sg) (k : Nat) (hk : k < 5) (kn : Nat) (hkn : kn < 5) (z : Sg) (hB : f_X1_copyFrom σ k kn = some z) : Kv l dC dI ad cA yX1_copyFrom wsX1_copyFrom 1 26 [.ref (ad (3 + 4 * k)), .ref (ad (3 + 4 * kn))] σ z := by
  refine mk_v (cc := cX1_copyFrom) (maxL := 2) (ret := none) (by decide) rfl (Nat.le_of_ble_eq_true rfl) ?_
  intro p e s m args below meth c Q H locs ls ⟨hx, hb, hr, hml, hown, hts, hlocks, hK, hN⟩ hQ hS hl
  have hown : s.vm.findClass RX1 = some m.cls := hown
  have hl : lv_has ls 2 [(0, .ref (ad (3 + 4 * k))), (1, .ref (ad (3 + 4 * kn)))] := hl
  have hk_f9 := hts (.fieldLink RX1 9 "ChanceNets$Net" "nodes" "I") (by decide +kernel)
  have hin_X1 : ∀ w ∈ u_ws RX1 TX1 5, w ∈ wsX1_copyFrom := by decide +kernel
  have hk_f15 := hts (.fieldLink RX1 15 "ChanceNets$Net" "widths" "[I") (by decide +kernel)
  have hk_m43 := hts (.methodLink RX1 43 arraycopyName) (by decide +kernel)
  have hk_nat := hts (.native arraycopyName) (by decide +kernel)
  have hk_sta := hts (.static arraycopyName) (by decide +kernel)
  have hk_isys := hts (.initialized "java/lang/System") (by decide +kernel)
  unfold f_X1_copyFrom at hB
  refine lv_aload_n hx hb dX1_copyFrom_0 rfl (lv_at hl 0 rfl) ?_
  refine lv_aload_n hx hb dX1_copyFrom_1 rfl (lv_at hl 1 rfl) ?_
  refine r_get (v := .int (gI σ (4 + 2 * kn))) (C := RX1) (T := TX1) (N := 5) hx hb hts hin_X1 hown hK hS (by omega) (e_net (k := kn) hkn) rfl 0 (by decide) hk_f9 rfl rfl dX1_copyFrom_2 ?_
  refine lv_topi (fun x1 ex1 => ?_)
  have hB := vl_at ex1 hB
  refine r_put (σ' := pI σ (4 + 2 * k) x1) (v := .int x1) (C := RX1) (T := TX1) (N := 5) hx hb hts hin_X1 tyX1 tyX1_ok nmX1 hown hK hS (by omega) (e_net (k := k) hk) rfl 0 (by decide) hk_f9 rfl rfl rfl rfl (Nat.le_of_ble_eq_true rfl) (fun d hd h => eo d hd (by rw [own_n hk]; exact h)) (e_netn (k := k) hk) dX1_copyFrom_5 (fun H locs hS => ?_)
  obtain ⟨σ2, eσ2⟩ : ∃ t : Sg, t = pI σ (4 + 2 * k) x1 := ⟨_, rfl⟩
  rw [← eσ2] at hS
  have hB := vl_at eσ2 hB
  refine lv_aload_n hx hb dX1_copyFrom_8 rfl (lv_at hl 1 rfl) ?_
  refine r_get (v := .ref (ad (4 + 4 * kn))) (C := RX1) (T := TX1) (N := 5) hx hb hts hin_X1 hown hK hS (by omega) (e_net (k := kn) hkn) rfl 2 (by decide) hk_f15 rfl rfl dX1_copyFrom_9 ?_
  refine lv_iconst (v := (0 : Int32)) hx hb dX1_copyFrom_12 (by decide) ?_
  refine lv_aload_n hx hb dX1_copyFrom_13 rfl (lv_at hl 0 rfl) ?_
  refine r_get (v := .ref (ad (4 + 4 * k))) (C := RX1) (T := TX1) (N := 5) hx hb hts hin_X1 hown hK hS (by omega) (e_net (k := k) hk) rfl 2 (by decide) hk_f15 rfl rfl dX1_copyFrom_14 ?_
  refine lv_iconst (v := (0 : Int32)) hx hb dX1_copyFrom_17 (by decide) ?_
  refine lv_aload_n hx hb dX1_copyFrom_18 rfl (lv_at hl 0 rfl) ?_
  refine r_get (v := .ref (ad (4 + 4 * k))) (C := RX1) (T := TX1) (N := 5) hx hb hts hin_X1 hown hK hS (by omega) (e_net (k := k) hk) rfl 2 (by decide) hk_f15 rfl rfl dX1_copyFrom_19 ?_
  refine r_alenA (v := (36 : Int32)) hx hb hK hS (by rw [lenA_w hk]; decide) (by rw [lenA_w hk]; rfl) dX1_copyFrom_22 ?_
  obtain ⟨h3, hB⟩ := gd_at hB
  refine r_copy hx hb (hml.trans hl.1.symm) hown hk_m43 hk_nat hk_sta hk_isys hK hS (by rw [lenA_w hkn]; decide) (by rw [lenA_w hk]; decide) (by rw [lenA_w hkn, lenA_w hk]; exact h3) (Nat.le_of_ble_eq_true rfl) (Nat.le_of_ble_eq_true rfl) dX1_copyFrom_23 (fun H locs hS => ?_)
  obtain ⟨σ4, eσ4⟩ : ∃ t : Sg, t = pAr σ2 (4 + 4 * k) (va_cpy (gA σ2 (4 + 4 * kn)) (gA σ2 (4 + 4 * k)) (0 : Int32).toNatClampNeg (0 : Int32).toNatClampNeg (36 : Int32).toNatClampNeg) := ⟨_, rfl⟩
  rw [← eσ4] at hS
  have hB := vl_at eσ4 hB
  refine lv_aload_n hx hb dX1_copyFrom_26 rfl (lv_at hl 0 rfl) ?_
  obtain ⟨t5, ht5, hB⟩ := bi_at hB
  refine r_Vv ⟨hx, hb, hml, hown, hts⟩ (c_X1_numberLines l dC dI ad cA σ4 k hk t5 ht5) (cwV 0 hts gX1_copyFrom_X1_numberLines rfl rfl rfl (by decide +kernel) ⟨Nat.le_of_ble_eq_true rfl, Nat.le_of_ble_eq_true rfl⟩) hK hN hS (by omega) (e_net (k := k) hk) rfl rfl hl.1 rfl (Nat.le_of_ble_eq_true rfl) dX1_copyFrom_27 ⟨Nat.le_refl _, Nat.le_refl _⟩ (fun H locs hS => ?_)
  subst hQ
  exact r_vret hx hb hr hK hS hB hlocks dX1_copyFrom_30
set_option maxHeartbeats 4000000 in
set_option maxRecDepth 100000 in
theorem c_X6_net (l : Launch) (dC : Nat → ClassId) (dI : Nat → Nat → Nat) (ad : Nat → Nat) (cA : Nat → ClassId) (σ : Sg)  (z : Int32 × Sg) (hB : f_X6_net σ = some z) : Ki l dC dI ad cA yX6_net wsX6_net 6 132 [.ref (ad 0)] σ z := by
  refine mk_i (cc := cX6_net) (maxL := 2) (ret := (some .int)) (by decide) rfl (Nat.le_of_ble_eq_true rfl) ?_
  intro p e s m args below meth c Q H locs ls ⟨hx, hb, hr, hml, hown, hts, hlocks, hK, hN⟩ hQ hS hl
  have hown : s.vm.findClass RX6 = some m.cls := hown
  have hl : lv_has ls 2 [(0, .ref (ad 0))] := hl
  have hk_f10 := hts (.fieldLink RX6 10 "ChanceNets" "text" "LChanceNets$Text;") (by decide +kernel)
  have hin_X6 : ∀ w ∈ u_ws RX6 TX6 13, w ∈ wsX6_net := by decide +kernel
  have hk_f23 := hts (.fieldLink RX6 23 "ChanceNets" "told" "LChanceNets$Net;") (by decide +kernel)
  have hk_f19 := hts (.fieldLink RX6 19 "ChanceNets" "now" "LChanceNets$Net;") (by decide +kernel)
  have hk_f36 := hts (.fieldLink RX6 36 "ChanceNets" "past" "LChanceNets$Past;") (by decide +kernel)
  have hk_f91 := hts (.fieldLink RX6 91 "ChanceNets$Past" "known" "I") (by decide +kernel)
  have hin_X2 : ∀ w ∈ u_ws RX2 TX2 4, w ∈ wsX6_net := by decide +kernel
  have hk_f94 := hts (.fieldLink RX6 94 "ChanceNets" "seenCount" "I") (by decide +kernel)
  have hk_f68 := hts (.fieldLink RX6 68 "ChanceNets" "imageIsKept" "[Z") (by decide +kernel)
  have hk_f76 := hts (.fieldLink RX6 76 "ChanceNets$Text" "length" "I") (by decide +kernel)
  have hin_X4 : ∀ w ∈ u_ws RX4 TX4 4, w ∈ wsX6_net := by decide +kernel
  have hk_f97 := hts (.fieldLink RX6 97 "ChanceNets$Text" "items" "I") (by decide +kernel)
  have hk_f84 := hts (.fieldLink RX6 84 "ChanceNets$Text" "place" "I") (by decide +kernel)
  unfold f_X6_net at hB
  refine lv_aload_n hx hb dX6_net_0 rfl (lv_at hl 0 rfl) ?_
  refine r_get (v := .ref (ad 1)) (C := RX6) (T := TX6) (N := 13) hx hb hts hin_X6 hown hK hS (by decide) e_0 rfl 0 (by decide) hk_f10 rfl rfl dX6_net_1 ?_
  refine lv_aload_n hx hb dX6_net_4 rfl (lv_at hl 0 rfl) ?_
  refine r_get (v := .ref (ad 7)) (C := RX6) (T := TX6) (N := 13) hx hb hts hin_X6 hown hK hS (by decide) e_0 rfl 2 (by decide) hk_f23 rfl rfl dX6_net_5 ?_
  obtain ⟨t1, ht1, hB⟩ := bi_at hB
  refine r_Vi ⟨hx, hb, hml, hown, hts⟩ (c_X4_tells l dC dI ad cA σ 1 (by decide) t1 ht1) (cwV 1 hts gX6_net_X4_tells rfl rfl rfl (by decide +kernel) ⟨Nat.le_of_ble_eq_true rfl, Nat.le_of_ble_eq_true rfl⟩) hK hN hS (by decide) e_1 rfl rfl hl.1 rfl (Nat.le_of_ble_eq_true rfl) dX6_net_8 ⟨Nat.le_refl _, Nat.le_refl _⟩ (fun H locs hS => ?_)
  refine lv_if_ne (tgt := 25) hx hb dX6_net_11 (by decide) (fun c2 => ?_) (fun c2 => ?_)
  · have hB := it_f c2 hB
    refine lv_aload_n hx hb dX6_net_25 rfl (lv_at hl 0 rfl) ?_
    refine r_get (v := .ref (ad 3)) (C := RX6) (T := TX6) (N := 13) hx hb hts hin_X6 hown hK hS (by decide) e_0 rfl 1 (by decide) hk_f19 rfl rfl dX6_net_26 ?_
    refine lv_aload_n hx hb dX6_net_29 rfl (lv_at hl 0 rfl) ?_
    refine r_get (v := .ref (ad 7)) (C := RX6) (T := TX6) (N := 13) hx hb hts hin_X6 hown hK hS (by decide) e_0 rfl 2 (by decide) hk_f23 rfl rfl dX6_net_30 ?_
    obtain ⟨t3, ht3, hB⟩ := bi_at hB
    refine r_Vv ⟨hx, hb, hml, hown, hts⟩ (c_X1_copyFrom l dC dI ad cA t1.2 0 (by decide) 1 (by decide) t3 ht3) (cwV 1 hts gX6_net_X1_copyFrom rfl rfl rfl (by decide +kernel) ⟨Nat.le_of_ble_eq_true rfl, Nat.le_of_ble_eq_true rfl⟩) hK hN hS (by decide) (e_net (k := 0) (by decide)) rfl rfl hl.1 rfl (Nat.le_of_ble_eq_true rfl) dX6_net_33 ⟨Nat.le_refl _, Nat.le_refl _⟩ (fun H locs hS => ?_)
    refine lv_aload_n hx hb dX6_net_36 rfl (lv_at hl 0 rfl) ?_
    refine r_get (v := .ref (ad 24)) (C := RX6) (T := TX6) (N := 13) hx hb hts hin_X6 hown hK hS (by decide) e_0 rfl 5 (by decide) hk_f36 rfl rfl dX6_net_37 ?_
    refine lv_iconst (v := (0 : Int32)) hx hb dX6_net_40 (by decide) ?_
    refine r_put (σ' := pI t3 14 (0 : Int32)) (v := .int (0 : Int32)) (C := RX2) (T := TX2) (N := 4) hx hb hts hin_X2 tyX2 tyX2_ok nmX2 hown hK hS (by decide) e_24 rfl 3 (by decide) hk_f91 rfl rfl rfl rfl (Nat.le_of_ble_eq_true rfl) (fun d hd h => eo d hd h) rfl dX6_net_41 (fun H locs hS => ?_)
    obtain ⟨σ4, eσ4⟩ : ∃ t : Sg, t = pI t3 14 (0 : Int32) := ⟨_, rfl⟩
    rw [← eσ4] at hS
    have hB := vl_at eσ4 hB
    refine lv_aload_n hx hb dX6_net_44 rfl (lv_at hl 0 rfl) ?_
    refine lv_iconst (v := (0 : Int32)) hx hb dX6_net_45 (by decide) ?_
    refine r_put (σ' := pI σ4 0 (0 : Int32)) (v := .int (0 : Int32)) (C := RX6) (T := TX6) (N := 13) hx hb hts hin_X6 tyX6 tyX6_ok nmX6 hown hK hS (by decide) e_0 rfl 10 (by decide) hk_f94 rfl rfl rfl rfl (Nat.le_of_ble_eq_true rfl) (fun d hd h => eo d hd h) rfl dX6_net_46 (fun H locs hS => ?_)
    obtain ⟨σ5, eσ5⟩ : ∃ t : Sg, t = pI σ4 0 (0 : Int32) := ⟨_, rfl⟩
    rw [← eσ5] at hS
    have hB := vl_at eσ5 hB
    refine lv_iconst (v := (0 : Int32)) hx hb dX6_net_49 (by decide) ?_
    refine lv_istore_n (lv' := [(1, .int (0 : Int32)), (0, .ref (ad 0))]) hx hb dX6_net_50 rfl hl (by decide) rfl (fun ls hl => ?_)
    obtain ⟨t12, ht12, hB⟩ := bi_at hB
    refine wl_W (body := fun a => f_X6_net_B51 a.1 a.2) (Hd := fun a : Int32 × Sg => ∀ (H : Heap) (locs : List Loc) (ls : Array Slot), ST dC dI ad cA s a.2 H locs → lv_has ls 2 [(0, .ref (ad 0)), (1, .int a.1)] → W p l e (RM 6 132) s m args below meth c H locs 0 0 Q (F0 m 51 ls [])) (Ex := fun b : Sg => ∀ (H : Heap) (locs : List Loc) (ls : Array Slot), ST dC dI ad cA s b H locs → lv_has ls 2 [(0, .ref (ad 0))] → W p l e (RM 6 132) s m args below meth c H locs 0 0 Q (F0 m 69 ls [])) ?_ FU _ t12 ht12 ?_ H locs ls hS (lv_sub hl [1, 0] rfl)
    · intro a r51 hB hI51 hE51 H locs ls hS hl
      obtain ⟨x6, σ7⟩ := a
      have hB : f_X6_net_B51 x6 σ7 = some r51 := hB
      unfold f_X6_net_B51 at hB
      have hS : ST dC dI ad cA s σ7 H locs := hS
      have hl : lv_has ls 2 [(0, .ref (ad 0)), (1, .int x6)] := hl
      show W p l e (RM 6 132) s m args below meth c H locs 0 0 Q (F0 m 51 ls [])
      refine lv_iload_n hx hb dX6_net_51 rfl (lv_at hl 1 rfl) ?_
      refine lv_iconst (v := (2 : Int32)) hx hb dX6_net_52 (by decide) ?_
      refine lv_icmp_ge (tgt := 69) hx hb dX6_net_53 (by decide) (fun c8 => ?_) (fun c8 => ?_)
      · have hB := it_t c8 hB
        exact hE51 _ (Option.some.inj hB).symm H locs ls hS (lv_sub hl [0] rfl)
      · have hB := it_f c8 hB
        refine lv_aload_n hx hb dX6_net_56 rfl (lv_at hl 0 rfl) ?_
        refine r_get (v := .ref (ad 44)) (C := RX6) (T := TX6) (N := 13) hx hb hts hin_X6 hown hK hS (by decide) e_0 rfl 12 (by decide) hk_f68 rfl rfl dX6_net_57 ?_
        refine lv_iload_n hx hb dX6_net_60 rfl (lv_at hl 1 rfl) ?_
        refine lv_iconst (v := (0 : Int32)) hx hb dX6_net_61 (by decide) ?_
        obtain ⟨h9, hB⟩ := gd_at hB
        refine r_zast hx hb hK hS rfl h9 dX6_net_62 (fun H locs hS => ?_)
        obtain ⟨σ10, eσ10⟩ : ∃ t : Sg, t = pA σ7 44 x6.toNatClampNeg (0 : Int32) := ⟨_, rfl⟩
        rw [← eσ10] at hS
        have hB := vl_at eσ10 hB
        obtain ⟨x11, ex11⟩ : ∃ y : Int32, y = x6 + (1 : Int32) := ⟨_, rfl⟩
        have hB := vl_at ex11 hB
        refine lv_iinc (v := x11) (lv' := [(1, .int x11), (0, .ref (ad 0))]) hx hb dX6_net_63 hl (k := 1) rfl (by rw [ex11]; rfl) (by decide) rfl (fun ls hl => ?_)
        refine lv_goto (tgt := 51) hx hb dX6_net_66 (by decide) ?_
        exact hI51 _ (Option.some.inj hB).symm H locs ls hS (lv_sub hl [1, 0] rfl)
    · skip
      intro H locs ls hS hl
      have hS : ST dC dI ad cA s t12 H locs := hS
      have hl : lv_has ls 2 [(0, .ref (ad 0))] := hl
      show W p l e (RM 6 132) s m args below meth c H locs 0 0 Q (F0 m 69 ls [])
      refine lv_aload_n hx hb dX6_net_69 rfl (lv_at hl 0 rfl) ?_
      refine r_get (v := .ref (ad 1)) (C := RX6) (T := TX6) (N := 13) hx hb hts hin_X6 hown hK hS (by decide) e_0 rfl 0 (by decide) hk_f10 rfl rfl dX6_net_70 ?_
      refine lv_iconst (v := (0 : Int32)) hx hb dX6_net_73 (by decide) ?_
      refine r_put (σ' := pI t12 1 (0 : Int32)) (v := .int (0 : Int32)) (C := RX4) (T := TX4) (N := 4) hx hb hts hin_X4 tyX4 tyX4_ok nmX4 hown hK hS (by decide) e_1 rfl 1 (by decide) hk_f76 rfl rfl rfl rfl (Nat.le_of_ble_eq_true rfl) (fun d hd h => eo d hd h) rfl dX6_net_74 (fun H locs hS => ?_)
      obtain ⟨σ13, eσ13⟩ : ∃ t : Sg, t = pI t12 1 (0 : Int32) := ⟨_, rfl⟩
      rw [← eσ13] at hS
      have hB := vl_at eσ13 hB
      refine lv_aload_n hx hb dX6_net_77 rfl (lv_at hl 0 rfl) ?_
      refine r_get (v := .ref (ad 1)) (C := RX6) (T := TX6) (N := 13) hx hb hts hin_X6 hown hK hS (by decide) e_0 rfl 0 (by decide) hk_f10 rfl rfl dX6_net_78 ?_
      refine r_get (v := .int (gI σ13 3)) (C := RX4) (T := TX4) (N := 4) hx hb hts hin_X4 hown hK hS (by decide) e_1 rfl 3 (by decide) hk_f97 rfl rfl dX6_net_81 ?_
      subst hQ
      exact r_iret hx hb hr hK hS hB hlocks dX6_net_84
  · have hB := it_t c2 hB
    refine lv_bipush (v := (-10 : Int32)) hx hb dX6_net_14 (by decide) ?_
    refine lv_aload_n hx hb dX6_net_16 rfl (lv_at hl 0 rfl) ?_
    refine r_get (v := .ref (ad 1)) (C := RX6) (T := TX6) (N := 13) hx hb hts hin_X6 hown hK hS (by decide) e_0 rfl 0 (by decide) hk_f10 rfl rfl dX6_net_17 ?_
    refine r_get (v := .int (gI t1.2 2)) (C := RX4) (T := TX4) (N := 4) hx hb hts hin_X4 hown hK hS (by decide) e_1 rfl 2 (by decide) hk_f84 rfl rfl dX6_net_20 ?_
    refine lv_isub hx hb dX6_net_23 ?_
    subst hQ
    exact r_iret hx hb hr hK hS hB hlocks dX6_net_24
set_option maxHeartbeats 4000000 in
set_option maxRecDepth 100000 in
theorem c_X1_hasLine (l : Launch) (dC : Nat → ClassId) (dI : Nat → Nat → Nat) (ad : Nat → Nat) (cA : Nat → ClassId) (σ : Sg) (k : Nat) (hk : k < 5) (a1 : Int32) (z : Int32) (hB : f_X1_hasLine σ k a1 = some z) : Ki l dC dI ad cA yX1_hasLine wsX1_hasLine 0 0 [.ref (ad (3 + 4 * k)), .int a1] σ (z, σ) := by
  refine mk_i (cc := cX1_hasLine) (maxL := 2) (ret := (some .boolean)) (by decide) rfl (Nat.le_of_ble_eq_true rfl) ?_
  intro p e s m args below meth c Q H locs ls ⟨hx, hb, hr, hml, hown, hts, hlocks, hK, hN⟩ hQ hS hl
  have hown : s.vm.findClass RX1 = some m.cls := hown
  have hl : lv_has ls 2 [(0, .ref (ad (3 + 4 * k))), (1, .int a1)] := hl
  have hk_f34 := hts (.fieldLink RX1 34 "ChanceNets$Net" "lines" "I") (by decide +kernel)
  have hin_X1 : ∀ w ∈ u_ws RX1 TX1 5, w ∈ wsX1_hasLine := by decide +kernel
  unfold f_X1_hasLine at hB
  refine lv_iload_n hx hb dX1_hasLine_0 rfl (lv_at hl 1 rfl) ?_
  refine lv_if_lt (tgt := 16) hx hb dX1_hasLine_1 (by decide) (fun c1 => ?_) (fun c1 => ?_)
  · have hB := it_t c1 hB
    refine lv_iconst (v := (0 : Int32)) hx hb dX1_hasLine_16 (by decide) ?_
    subst hQ
    exact r_zret hx hb hr hK hS rfl (pz hB) hlocks dX1_hasLine_17
  · have hB := it_f c1 hB
    refine lv_iload_n hx hb dX1_hasLine_4 rfl (lv_at hl 1 rfl) ?_
    refine lv_aload_n hx hb dX1_hasLine_5 rfl (lv_at hl 0 rfl) ?_
    refine r_get (v := .int (gI σ (5 + 2 * k))) (C := RX1) (T := TX1) (N := 5) hx hb hts hin_X1 hown hK hS (by omega) (e_net (k := k) hk) rfl 1 (by decide) hk_f34 rfl rfl dX1_hasLine_6 ?_
    refine lv_icmp_ge (tgt := 16) hx hb dX1_hasLine_9 (by decide) (fun c2 => ?_) (fun c2 => ?_)
    · have hB := it_t c2 hB
      refine lv_iconst (v := (0 : Int32)) hx hb dX1_hasLine_16 (by decide) ?_
      subst hQ
      exact r_zret hx hb hr hK hS rfl (pz hB) hlocks dX1_hasLine_17
    · have hB := it_f c2 hB
      refine lv_iconst (v := (1 : Int32)) hx hb dX1_hasLine_12 (by decide) ?_
      refine lv_goto (tgt := 17) hx hb dX1_hasLine_13 (by decide) ?_
      subst hQ
      exact r_zret hx hb hr hK hS rfl (pz hB) hlocks dX1_hasLine_17
set_option maxHeartbeats 4000000 in
set_option maxRecDepth 100000 in
theorem c_X1_lowOf (l : Launch) (dC : Nat → ClassId) (dI : Nat → Nat → Nat) (ad : Nat → Nat) (cA : Nat → ClassId) (σ : Sg) (k : Nat) (hk : k < 5) (a1 : Int32) (z : Int32) (hB : f_X1_lowOf σ k a1 = some z) : Ki l dC dI ad cA yX1_lowOf wsX1_lowOf 1 21 [.ref (ad (3 + 4 * k)), .int a1] σ (z, σ) := by
  refine mk_i (cc := cX1_lowOf) (maxL := 2) (ret := (some .int)) (by decide) rfl (Nat.le_of_ble_eq_true rfl) ?_
  intro p e s m args below meth c Q H locs ls ⟨hx, hb, hr, hml, hown, hts, hlocks, hK, hN⟩ hQ hS hl
  have hown : s.vm.findClass RX1 = some m.cls := hown
  have hl : lv_has ls 2 [(0, .ref (ad (3 + 4 * k))), (1, .int a1)] := hl
  have hk_f19 := hts (.fieldLink RX1 19 "ChanceNets$Net" "lows" "[I") (by decide +kernel)
  have hin_X1 : ∀ w ∈ u_ws RX1 TX1 5, w ∈ wsX1_lowOf := by decide +kernel
  unfold f_X1_lowOf at hB
  refine lv_aload_n hx hb dX1_lowOf_0 rfl (lv_at hl 0 rfl) ?_
  refine lv_iload_n hx hb dX1_lowOf_1 rfl (lv_at hl 1 rfl) ?_
  obtain ⟨t1, ht1, hB⟩ := bi_at hB
  refine r_ViP ⟨hx, hb, hml, hown, hts⟩ (c_X1_hasLine l dC dI ad cA σ k hk a1 t1 ht1) (cwV 1 hts gX1_lowOf_X1_hasLine rfl rfl rfl (by decide +kernel) ⟨Nat.le_of_ble_eq_true rfl, Nat.le_of_ble_eq_true rfl⟩) hK hN hS (by omega) (e_net (k := k) hk) rfl rfl hl.1 rfl (Nat.le_of_ble_eq_true rfl) dX1_lowOf_2 ⟨Nat.le_refl _, Nat.le_refl _⟩ (fun H locs hS => ?_)
  refine lv_if_eq (tgt := 17) hx hb dX1_lowOf_5 (by decide) (fun c2 => ?_) (fun c2 => ?_)
  · have hB := it_t c2 hB
    refine lv_iconst (v := (0 : Int32)) hx hb dX1_lowOf_17 (by decide) ?_
    subst hQ
    exact r_iret hx hb hr hK hS (pz hB) hlocks dX1_lowOf_18
  · have hB := it_f c2 hB
    refine lv_aload_n hx hb dX1_lowOf_8 rfl (lv_at hl 0 rfl) ?_
    refine r_get (v := .ref (ad (5 + 4 * k))) (C := RX1) (T := TX1) (N := 5) hx hb hts hin_X1 hown hK hS (by omega) (e_net (k := k) hk) rfl 3 (by decide) hk_f19 rfl rfl dX1_lowOf_9 ?_
    refine lv_iload_n hx hb dX1_lowOf_12 rfl (lv_at hl 1 rfl) ?_
    obtain ⟨h3, hB⟩ := gd_at hB
    refine r_iald hx hb hK hS (by rw [lenA_l hk]; exact h3) dX1_lowOf_13 ?_
    refine lv_goto (tgt := 18) hx hb dX1_lowOf_14 (by decide) ?_
    subst hQ
    exact r_iret hx hb hr hK hS (pz hB) hlocks dX1_lowOf_18
set_option maxHeartbeats 4000000 in
set_option maxRecDepth 100000 in
theorem c_X1_highOf (l : Launch) (dC : Nat → ClassId) (dI : Nat → Nat → Nat) (ad : Nat → Nat) (cA : Nat → ClassId) (σ : Sg) (k : Nat) (hk : k < 5) (a1 : Int32) (z : Int32) (hB : f_X1_highOf σ k a1 = some z) : Ki l dC dI ad cA yX1_highOf wsX1_highOf 1 21 [.ref (ad (3 + 4 * k)), .int a1] σ (z, σ) := by
  refine mk_i (cc := cX1_highOf) (maxL := 2) (ret := (some .int)) (by decide) rfl (Nat.le_of_ble_eq_true rfl) ?_
  intro p e s m args below meth c Q H locs ls ⟨hx, hb, hr, hml, hown, hts, hlocks, hK, hN⟩ hQ hS hl
  have hown : s.vm.findClass RX1 = some m.cls := hown
  have hl : lv_has ls 2 [(0, .ref (ad (3 + 4 * k))), (1, .int a1)] := hl
  have hk_f22 := hts (.fieldLink RX1 22 "ChanceNets$Net" "highs" "[I") (by decide +kernel)
  have hin_X1 : ∀ w ∈ u_ws RX1 TX1 5, w ∈ wsX1_highOf := by decide +kernel
  unfold f_X1_highOf at hB
  refine lv_aload_n hx hb dX1_highOf_0 rfl (lv_at hl 0 rfl) ?_
  refine lv_iload_n hx hb dX1_highOf_1 rfl (lv_at hl 1 rfl) ?_
  obtain ⟨t1, ht1, hB⟩ := bi_at hB
  refine r_ViP ⟨hx, hb, hml, hown, hts⟩ (c_X1_hasLine l dC dI ad cA σ k hk a1 t1 ht1) (cwV 1 hts gX1_highOf_X1_hasLine rfl rfl rfl (by decide +kernel) ⟨Nat.le_of_ble_eq_true rfl, Nat.le_of_ble_eq_true rfl⟩) hK hN hS (by omega) (e_net (k := k) hk) rfl rfl hl.1 rfl (Nat.le_of_ble_eq_true rfl) dX1_highOf_2 ⟨Nat.le_refl _, Nat.le_refl _⟩ (fun H locs hS => ?_)
  refine lv_if_eq (tgt := 17) hx hb dX1_highOf_5 (by decide) (fun c2 => ?_) (fun c2 => ?_)
  · have hB := it_t c2 hB
    refine lv_iconst (v := (0 : Int32)) hx hb dX1_highOf_17 (by decide) ?_
    subst hQ
    exact r_iret hx hb hr hK hS (pz hB) hlocks dX1_highOf_18
  · have hB := it_f c2 hB
    refine lv_aload_n hx hb dX1_highOf_8 rfl (lv_at hl 0 rfl) ?_
    refine r_get (v := .ref (ad (6 + 4 * k))) (C := RX1) (T := TX1) (N := 5) hx hb hts hin_X1 hown hK hS (by omega) (e_net (k := k) hk) rfl 4 (by decide) hk_f22 rfl rfl dX1_highOf_9 ?_
    refine lv_iload_n hx hb dX1_highOf_12 rfl (lv_at hl 1 rfl) ?_
    obtain ⟨h3, hB⟩ := gd_at hB
    refine r_iald hx hb hK hS (by rw [lenA_h hk]; exact h3) dX1_highOf_13 ?_
    refine lv_goto (tgt := 18) hx hb dX1_highOf_14 (by decide) ?_
    subst hQ
    exact r_iret hx hb hr hK hS (pz hB) hlocks dX1_highOf_18
set_option maxHeartbeats 4000000 in
set_option maxRecDepth 100000 in
theorem c_X1_widthOf (l : Launch) (dC : Nat → ClassId) (dI : Nat → Nat → Nat) (ad : Nat → Nat) (cA : Nat → ClassId) (σ : Sg) (k : Nat) (hk : k < 5) (a1 : Int32) (z : Int32) (hB : f_X1_widthOf σ k a1 = some z) : Ki l dC dI ad cA yX1_widthOf wsX1_widthOf 2 43 [.ref (ad (3 + 4 * k)), .int a1] σ (z, σ) := by
  refine mk_i (cc := cX1_widthOf) (maxL := 2) (ret := (some .int)) (by decide) rfl (Nat.le_of_ble_eq_true rfl) ?_
  intro p e s m args below meth c Q H locs ls ⟨hx, hb, hr, hml, hown, hts, hlocks, hK, hN⟩ hQ hS hl
  have hown : s.vm.findClass RX1 = some m.cls := hown
  have hl : lv_has ls 2 [(0, .ref (ad (3 + 4 * k))), (1, .int a1)] := hl
  unfold f_X1_widthOf at hB
  refine lv_aload_n hx hb dX1_widthOf_0 rfl (lv_at hl 0 rfl) ?_
  refine lv_aload_n hx hb dX1_widthOf_1 rfl (lv_at hl 0 rfl) ?_
  refine lv_iload_n hx hb dX1_widthOf_2 rfl (lv_at hl 1 rfl) ?_
  obtain ⟨t1, ht1, hB⟩ := bi_at hB
  refine r_ViP ⟨hx, hb, hml, hown, hts⟩ (c_X1_lowOf l dC dI ad cA σ k hk a1 t1 ht1) (cwV 1 hts gX1_widthOf_X1_lowOf rfl rfl rfl (by decide +kernel) ⟨Nat.le_of_ble_eq_true rfl, Nat.le_of_ble_eq_true rfl⟩) hK hN hS (by omega) (e_net (k := k) hk) rfl rfl hl.1 rfl (Nat.le_of_ble_eq_true rfl) dX1_widthOf_3 ⟨Nat.le_refl _, Nat.le_refl _⟩ (fun H locs hS => ?_)
  refine lv_aload_n hx hb dX1_widthOf_6 rfl (lv_at hl 0 rfl) ?_
  refine lv_iload_n hx hb dX1_widthOf_7 rfl (lv_at hl 1 rfl) ?_
  obtain ⟨t2, ht2, hB⟩ := bi_at hB
  refine r_ViP ⟨hx, hb, hml, hown, hts⟩ (c_X1_highOf l dC dI ad cA σ k hk a1 t2 ht2) (cwV 1 hts gX1_widthOf_X1_highOf rfl rfl rfl (by decide +kernel) ⟨Nat.le_of_ble_eq_true rfl, Nat.le_of_ble_eq_true rfl⟩) hK hN hS (by omega) (e_net (k := k) hk) rfl rfl hl.1 rfl (Nat.le_of_ble_eq_true rfl) dX1_widthOf_8 ⟨Nat.le_refl _, Nat.le_refl _⟩ (fun H locs hS => ?_)
  obtain ⟨t3, ht3, hB⟩ := bi_at hB
  refine r_ViP ⟨hx, hb, hml, hown, hts⟩ (c_X1_widthAt l dC dI ad cA σ k hk t1 t2 t3 ht3) (cwV 2 hts gX1_widthOf_X1_widthAt rfl rfl rfl (by decide +kernel) ⟨Nat.le_of_ble_eq_true rfl, Nat.le_of_ble_eq_true rfl⟩) hK hN hS (by omega) (e_net (k := k) hk) rfl rfl hl.1 rfl (Nat.le_of_ble_eq_true rfl) dX1_widthOf_11 ⟨Nat.le_refl _, Nat.le_refl _⟩ (fun H locs hS => ?_)
  subst hQ
  exact r_iret hx hb hr hK hS (pz hB) hlocks dX1_widthOf_14
set_option maxHeartbeats 4000000 in
set_option maxRecDepth 100000 in
theorem c_X6_line (l : Launch) (dC : Nat → ClassId) (dI : Nat → Nat → Nat) (ad : Nat → Nat) (cA : Nat → ClassId) (σ : Sg) (a1 : Int32) (a2 : Int32) (z : Int32) (hB : f_X6_line σ a1 a2 = some z) : Ki l dC dI ad cA yX6_line wsX6_line 3 64 [.ref (ad 0), .int a1, .int a2] σ (z, σ) := by
  refine mk_i (cc := cX6_line) (maxL := 3) (ret := (some .int)) (by decide) rfl (Nat.le_of_ble_eq_true rfl) ?_
  intro p e s m args below meth c Q H locs ls ⟨hx, hb, hr, hml, hown, hts, hlocks, hK, hN⟩ hQ hS hl
  have hown : s.vm.findClass RX6 = some m.cls := hown
  have hl : lv_has ls 3 [(0, .ref (ad 0)), (1, .int a1), (2, .int a2)] := hl
  have hk_f19 := hts (.fieldLink RX6 19 "ChanceNets" "now" "LChanceNets$Net;") (by decide +kernel)
  have hin_X6 : ∀ w ∈ u_ws RX6 TX6 13, w ∈ wsX6_line := by decide +kernel
  unfold f_X6_line at hB
  refine lv_aload_n hx hb dX6_line_0 rfl (lv_at hl 0 rfl) ?_
  refine r_get (v := .ref (ad 3)) (C := RX6) (T := TX6) (N := 13) hx hb hts hin_X6 hown hK hS (by decide) e_0 rfl 1 (by decide) hk_f19 rfl rfl dX6_line_1 ?_
  refine lv_iload_n hx hb dX6_line_4 rfl (lv_at hl 1 rfl) ?_
  obtain ⟨t1, ht1, hB⟩ := bi_at hB
  refine r_ViP ⟨hx, hb, hml, hown, hts⟩ (c_X1_hasLine l dC dI ad cA σ 0 (by decide) a1 t1 ht1) (cwV 1 hts gX6_line_X1_hasLine rfl rfl rfl (by decide +kernel) ⟨Nat.le_of_ble_eq_true rfl, Nat.le_of_ble_eq_true rfl⟩) hK hN hS (by decide) (e_net (k := 0) (by decide)) rfl rfl hl.1 rfl (Nat.le_of_ble_eq_true rfl) dX6_line_5 ⟨Nat.le_refl _, Nat.le_refl _⟩ (fun H locs hS => ?_)
  refine lv_if_eq (tgt := 20) hx hb dX6_line_8 (by decide) (fun c2 => ?_) (fun c2 => ?_)
  · have hB := it_t c2 hB
    refine lv_iconst (v := (-1 : Int32)) hx hb dX6_line_20 (by decide) ?_
    subst hQ
    exact r_iret hx hb hr hK hS (pz hB) hlocks dX6_line_21
  · have hB := it_f c2 hB
    refine lv_iload_n hx hb dX6_line_11 rfl (lv_at hl 2 rfl) ?_
    refine lv_if_lt (tgt := 20) hx hb dX6_line_12 (by decide) (fun c3 => ?_) (fun c3 => ?_)
    · have hB := it_t c3 hB
      refine lv_iconst (v := (-1 : Int32)) hx hb dX6_line_20 (by decide) ?_
      subst hQ
      exact r_iret hx hb hr hK hS (pz hB) hlocks dX6_line_21
    · have hB := it_f c3 hB
      refine lv_iload_n hx hb dX6_line_15 rfl (lv_at hl 2 rfl) ?_
      refine lv_iconst (v := (2 : Int32)) hx hb dX6_line_16 (by decide) ?_
      refine lv_icmp_le (tgt := 22) hx hb dX6_line_17 (by decide) (fun c4 => ?_) (fun c4 => ?_)
      · have hB := it_t c4 hB
        refine lv_iload_n hx hb dX6_line_22 rfl (lv_at hl 2 rfl) ?_
        refine lv_if_ne (tgt := 35) hx hb dX6_line_23 (by decide) (fun c5 => ?_) (fun c5 => ?_)
        · have hB := it_f c5 hB
          refine lv_iload_n hx hb dX6_line_35 rfl (lv_at hl 2 rfl) ?_
          refine lv_iconst (v := (1 : Int32)) hx hb dX6_line_36 (by decide) ?_
          refine lv_icmp_ne (tgt := 51) hx hb dX6_line_37 (by decide) (fun c6 => ?_) (fun c6 => ?_)
          · have hB := it_f c6 hB
            refine lv_aload_n hx hb dX6_line_51 rfl (lv_at hl 0 rfl) ?_
            refine r_get (v := .ref (ad 3)) (C := RX6) (T := TX6) (N := 13) hx hb hts hin_X6 hown hK hS (by decide) e_0 rfl 1 (by decide) hk_f19 rfl rfl dX6_line_52 ?_
            refine lv_iload_n hx hb dX6_line_55 rfl (lv_at hl 1 rfl) ?_
            obtain ⟨t7, ht7, hB⟩ := bi_at hB
            refine r_ViP ⟨hx, hb, hml, hown, hts⟩ (c_X1_widthOf l dC dI ad cA σ 0 (by decide) a1 t7 ht7) (cwV 1 hts gX6_line_X1_widthOf rfl rfl rfl (by decide +kernel) ⟨Nat.le_of_ble_eq_true rfl, Nat.le_of_ble_eq_true rfl⟩) hK hN hS (by decide) (e_net (k := 0) (by decide)) rfl rfl hl.1 rfl (Nat.le_of_ble_eq_true rfl) dX6_line_56 ⟨Nat.le_refl _, Nat.le_refl _⟩ (fun H locs hS => ?_)
            subst hQ
            exact r_iret hx hb hr hK hS (pz hB) hlocks dX6_line_59
          · have hB := it_t c6 hB
            refine lv_aload_n hx hb dX6_line_40 rfl (lv_at hl 0 rfl) ?_
            refine r_get (v := .ref (ad 3)) (C := RX6) (T := TX6) (N := 13) hx hb hts hin_X6 hown hK hS (by decide) e_0 rfl 1 (by decide) hk_f19 rfl rfl dX6_line_41 ?_
            refine lv_iload_n hx hb dX6_line_44 rfl (lv_at hl 1 rfl) ?_
            obtain ⟨t8, ht8, hB⟩ := bi_at hB
            refine r_ViP ⟨hx, hb, hml, hown, hts⟩ (c_X1_highOf l dC dI ad cA σ 0 (by decide) a1 t8 ht8) (cwV 1 hts gX6_line_X1_highOf rfl rfl rfl (by decide +kernel) ⟨Nat.le_of_ble_eq_true rfl, Nat.le_of_ble_eq_true rfl⟩) hK hN hS (by decide) (e_net (k := 0) (by decide)) rfl rfl hl.1 rfl (Nat.le_of_ble_eq_true rfl) dX6_line_45 ⟨Nat.le_refl _, Nat.le_refl _⟩ (fun H locs hS => ?_)
            refine lv_goto (tgt := 59) hx hb dX6_line_48 (by decide) ?_
            subst hQ
            exact r_iret hx hb hr hK hS (pz hB) hlocks dX6_line_59
        · have hB := it_t c5 hB
          refine lv_aload_n hx hb dX6_line_26 rfl (lv_at hl 0 rfl) ?_
          refine r_get (v := .ref (ad 3)) (C := RX6) (T := TX6) (N := 13) hx hb hts hin_X6 hown hK hS (by decide) e_0 rfl 1 (by decide) hk_f19 rfl rfl dX6_line_27 ?_
          refine lv_iload_n hx hb dX6_line_30 rfl (lv_at hl 1 rfl) ?_
          obtain ⟨t9, ht9, hB⟩ := bi_at hB
          refine r_ViP ⟨hx, hb, hml, hown, hts⟩ (c_X1_lowOf l dC dI ad cA σ 0 (by decide) a1 t9 ht9) (cwV 1 hts gX6_line_X1_lowOf rfl rfl rfl (by decide +kernel) ⟨Nat.le_of_ble_eq_true rfl, Nat.le_of_ble_eq_true rfl⟩) hK hN hS (by decide) (e_net (k := 0) (by decide)) rfl rfl hl.1 rfl (Nat.le_of_ble_eq_true rfl) dX6_line_31 ⟨Nat.le_refl _, Nat.le_refl _⟩ (fun H locs hS => ?_)
          subst hQ
          exact r_iret hx hb hr hK hS (pz hB) hlocks dX6_line_34
      · have hB := it_f c4 hB
        refine lv_iconst (v := (-1 : Int32)) hx hb dX6_line_20 (by decide) ?_
        subst hQ
        exact r_iret hx hb hr hK hS (pz hB) hlocks dX6_line_21
set_option maxHeartbeats 4000000 in
set_option maxRecDepth 100000 in
theorem c_X1_degree (l : Launch) (dC : Nat → ClassId) (dI : Nat → Nat → Nat) (ad : Nat → Nat) (cA : Nat → ClassId) (σ : Sg) (k : Nat) (hk : k < 5) (a1 : Int32) (z : Int32) (hB : f_X1_degree σ k a1 = some z) : Ki l dC dI ad cA yX1_degree wsX1_degree 1 21 [.ref (ad (3 + 4 * k)), .int a1] σ (z, σ) := by
  refine mk_i (cc := cX1_degree) (maxL := 4) (ret := (some .int)) (by decide) rfl (Nat.le_of_ble_eq_true rfl) ?_
  intro p e s m args below meth c Q H locs ls ⟨hx, hb, hr, hml, hown, hts, hlocks, hK, hN⟩ hQ hS hl
  have hown : s.vm.findClass RX1 = some m.cls := hown
  have hl : lv_has ls 4 [(0, .ref (ad (3 + 4 * k))), (1, .int a1)] := hl
  have hk_f9 := hts (.fieldLink RX1 9 "ChanceNets$Net" "nodes" "I") (by decide +kernel)
  have hin_X1 : ∀ w ∈ u_ws RX1 TX1 5, w ∈ wsX1_degree := by decide +kernel
  have hk_f15 := hts (.fieldLink RX1 15 "ChanceNets$Net" "widths" "[I") (by decide +kernel)
  unfold f_X1_degree at hB
  refine lv_aload_n hx hb dX1_degree_0 rfl (lv_at hl 0 rfl) ?_
  refine lv_iload_n hx hb dX1_degree_1 rfl (lv_at hl 1 rfl) ?_
  obtain ⟨t1, ht1, hB⟩ := bi_at hB
  refine r_ViP ⟨hx, hb, hml, hown, hts⟩ (c_X1_hasNode l dC dI ad cA σ k hk a1 t1 ht1) (cwV 1 hts gX1_degree_X1_hasNode rfl rfl rfl (by decide +kernel) ⟨Nat.le_of_ble_eq_true rfl, Nat.le_of_ble_eq_true rfl⟩) hK hN hS (by omega) (e_net (k := k) hk) rfl rfl hl.1 rfl (Nat.le_of_ble_eq_true rfl) dX1_degree_2 ⟨Nat.le_refl _, Nat.le_refl _⟩ (fun H locs hS => ?_)
  refine lv_if_ne (tgt := 10) hx hb dX1_degree_5 (by decide) (fun c2 => ?_) (fun c2 => ?_)
  · have hB := it_f c2 hB
    refine lv_iconst (v := (0 : Int32)) hx hb dX1_degree_10 (by decide) ?_
    refine lv_istore_n (lv' := [(2, .int (0 : Int32)), (0, .ref (ad (3 + 4 * k))), (1, .int a1)]) hx hb dX1_degree_11 rfl hl (by decide) rfl (fun ls hl => ?_)
    refine lv_iconst (v := (0 : Int32)) hx hb dX1_degree_12 (by decide) ?_
    refine lv_istore_n (lv' := [(3, .int (0 : Int32)), (2, .int (0 : Int32)), (0, .ref (ad (3 + 4 * k))), (1, .int a1)]) hx hb dX1_degree_13 rfl hl (by decide) rfl (fun ls hl => ?_)
    obtain ⟨t9, ht9, hB⟩ := bi_at hB
    refine wl_W (body := fun a => f_X1_degree_B14 σ k a1 a.1 a.2) (Hd := fun a : Int32 × Int32 => ∀ (H : Heap) (locs : List Loc) (ls : Array Slot), ST dC dI ad cA s σ H locs → lv_has ls 4 [(0, .ref (ad (3 + 4 * k))), (1, .int a1), (2, .int a.1), (3, .int a.2)] → W p l e (RM 1 21) s m args below meth c H locs 0 0 Q (F0 m 14 ls [])) (Ex := fun b : Int32 => ∀ (H : Heap) (locs : List Loc) (ls : Array Slot), ST dC dI ad cA s σ H locs → lv_has ls 4 [(2, .int b)] → W p l e (RM 1 21) s m args below meth c H locs 0 0 Q (F0 m 42 ls [])) ?_ FU _ t9 ht9 ?_ H locs ls hS (lv_sub hl [2, 3, 1, 0] rfl)
    · intro a r14 hB hI14 hE14 H locs ls hS hl
      obtain ⟨x3, x4⟩ := a
      have hB : f_X1_degree_B14 σ k a1 x3 x4 = some r14 := hB
      unfold f_X1_degree_B14 at hB
      have hS : ST dC dI ad cA s σ H locs := hS
      have hl : lv_has ls 4 [(0, .ref (ad (3 + 4 * k))), (1, .int a1), (2, .int x3), (3, .int x4)] := hl
      show W p l e (RM 1 21) s m args below meth c H locs 0 0 Q (F0 m 14 ls [])
      refine lv_iload_n hx hb dX1_degree_14 rfl (lv_at hl 3 rfl) ?_
      refine lv_aload_n hx hb dX1_degree_15 rfl (lv_at hl 0 rfl) ?_
      refine r_get (v := .int (gI σ (4 + 2 * k))) (C := RX1) (T := TX1) (N := 5) hx hb hts hin_X1 hown hK hS (by omega) (e_net (k := k) hk) rfl 0 (by decide) hk_f9 rfl rfl dX1_degree_16 ?_
      refine lv_icmp_ge (tgt := 42) hx hb dX1_degree_19 (by decide) (fun c5 => ?_) (fun c5 => ?_)
      · have hB := it_t c5 hB
        exact hE14 _ (Option.some.inj hB).symm H locs ls hS (lv_sub hl [2] rfl)
      · have hB := it_f c5 hB
        refine lv_iload_n hx hb dX1_degree_22 rfl (lv_at hl 2 rfl) ?_
        refine lv_aload_n hx hb dX1_degree_23 rfl (lv_at hl 0 rfl) ?_
        refine r_get (v := .ref (ad (4 + 4 * k))) (C := RX1) (T := TX1) (N := 5) hx hb hts hin_X1 hown hK hS (by omega) (e_net (k := k) hk) rfl 2 (by decide) hk_f15 rfl rfl dX1_degree_24 ?_
        refine lv_iload_n hx hb dX1_degree_27 rfl (lv_at hl 1 rfl) ?_
        refine lv_bipush (v := (6 : Int32)) hx hb dX1_degree_28 (by decide) ?_
        refine lv_imul hx hb dX1_degree_30 ?_
        refine lv_iload_n hx hb dX1_degree_31 rfl (lv_at hl 3 rfl) ?_
        refine lv_iadd hx hb dX1_degree_32 ?_
        obtain ⟨h6, hB⟩ := gd_at hB
        refine r_iald hx hb hK hS (by rw [lenA_w hk]; exact h6) dX1_degree_33 ?_
        refine lv_iadd hx hb dX1_degree_34 ?_
        refine lv_topi (fun x7 ex7 => ?_)
        have hB := vl_at ex7 hB
        refine lv_istore_n (lv' := [(2, .int x7), (0, .ref (ad (3 + 4 * k))), (1, .int a1), (3, .int x4)]) hx hb dX1_degree_35 rfl hl (by decide) rfl (fun ls hl => ?_)
        obtain ⟨x8, ex8⟩ : ∃ y : Int32, y = x4 + (1 : Int32) := ⟨_, rfl⟩
        have hB := vl_at ex8 hB
        refine lv_iinc (v := x8) (lv' := [(3, .int x8), (2, .int x7), (0, .ref (ad (3 + 4 * k))), (1, .int a1)]) hx hb dX1_degree_36 hl (k := 3) rfl (by rw [ex8]; rfl) (by decide) rfl (fun ls hl => ?_)
        refine lv_goto (tgt := 14) hx hb dX1_degree_39 (by decide) ?_
        exact hI14 _ (Option.some.inj hB).symm H locs ls hS (lv_sub hl [2, 3, 1, 0] rfl)
    · skip
      intro H locs ls hS hl
      have hS : ST dC dI ad cA s σ H locs := hS
      have hl : lv_has ls 4 [(2, .int t9)] := hl
      show W p l e (RM 1 21) s m args below meth c H locs 0 0 Q (F0 m 42 ls [])
      refine lv_iload_n hx hb dX1_degree_42 rfl (lv_at hl 0 rfl) ?_
      subst hQ
      exact r_iret hx hb hr hK hS (pz hB) hlocks dX1_degree_43
  · have hB := it_t c2 hB
    refine lv_iconst (v := (0 : Int32)) hx hb dX1_degree_8 (by decide) ?_
    subst hQ
    exact r_iret hx hb hr hK hS (pz hB) hlocks dX1_degree_9
set_option maxHeartbeats 4000000 in
set_option maxRecDepth 100000 in
theorem c_X6_width (l : Launch) (dC : Nat → ClassId) (dI : Nat → Nat → Nat) (ad : Nat → Nat) (cA : Nat → ClassId) (σ : Sg) (a1 : Int32) (a2 : Int32) (z : Int32) (hB : f_X6_width σ a1 a2 = some z) : Ki l dC dI ad cA yX6_width wsX6_width 2 44 [.ref (ad 0), .int a1, .int a2] σ (z, σ) := by
  refine mk_i (cc := cX6_width) (maxL := 3) (ret := (some .int)) (by decide) rfl (Nat.le_of_ble_eq_true rfl) ?_
  intro p e s m args below meth c Q H locs ls ⟨hx, hb, hr, hml, hown, hts, hlocks, hK, hN⟩ hQ hS hl
  have hown : s.vm.findClass RX6 = some m.cls := hown
  have hl : lv_has ls 3 [(0, .ref (ad 0)), (1, .int a1), (2, .int a2)] := hl
  have hk_f19 := hts (.fieldLink RX6 19 "ChanceNets" "now" "LChanceNets$Net;") (by decide +kernel)
  have hin_X6 : ∀ w ∈ u_ws RX6 TX6 13, w ∈ wsX6_width := by decide +kernel
  unfold f_X6_width at hB
  refine lv_aload_n hx hb dX6_width_0 rfl (lv_at hl 0 rfl) ?_
  refine r_get (v := .ref (ad 3)) (C := RX6) (T := TX6) (N := 13) hx hb hts hin_X6 hown hK hS (by decide) e_0 rfl 1 (by decide) hk_f19 rfl rfl dX6_width_1 ?_
  refine lv_iload_n hx hb dX6_width_4 rfl (lv_at hl 1 rfl) ?_
  obtain ⟨t1, ht1, hB⟩ := bi_at hB
  refine r_ViP ⟨hx, hb, hml, hown, hts⟩ (c_X1_hasNode l dC dI ad cA σ 0 (by decide) a1 t1 ht1) (cwV 1 hts gX6_width_X1_hasNode rfl rfl rfl (by decide +kernel) ⟨Nat.le_of_ble_eq_true rfl, Nat.le_of_ble_eq_true rfl⟩) hK hN hS (by decide) (e_net (k := 0) (by decide)) rfl rfl hl.1 rfl (Nat.le_of_ble_eq_true rfl) dX6_width_5 ⟨Nat.le_refl _, Nat.le_refl _⟩ (fun H locs hS => ?_)
  refine lv_if_eq (tgt := 22) hx hb dX6_width_8 (by decide) (fun c2 => ?_) (fun c2 => ?_)
  · have hB := it_t c2 hB
    refine lv_iconst (v := (-1 : Int32)) hx hb dX6_width_22 (by decide) ?_
    subst hQ
    exact r_iret hx hb hr hK hS (pz hB) hlocks dX6_width_23
  · have hB := it_f c2 hB
    refine lv_aload_n hx hb dX6_width_11 rfl (lv_at hl 0 rfl) ?_
    refine r_get (v := .ref (ad 3)) (C := RX6) (T := TX6) (N := 13) hx hb hts hin_X6 hown hK hS (by decide) e_0 rfl 1 (by decide) hk_f19 rfl rfl dX6_width_12 ?_
    refine lv_iload_n hx hb dX6_width_15 rfl (lv_at hl 2 rfl) ?_
    obtain ⟨t3, ht3, hB⟩ := bi_at hB
    refine r_ViP ⟨hx, hb, hml, hown, hts⟩ (c_X1_hasNode l dC dI ad cA σ 0 (by decide) a2 t3 ht3) (cwV 1 hts gX6_width_X1_hasNode rfl rfl rfl (by decide +kernel) ⟨Nat.le_of_ble_eq_true rfl, Nat.le_of_ble_eq_true rfl⟩) hK hN hS (by decide) (e_net (k := 0) (by decide)) rfl rfl hl.1 rfl (Nat.le_of_ble_eq_true rfl) dX6_width_16 ⟨Nat.le_refl _, Nat.le_refl _⟩ (fun H locs hS => ?_)
    refine lv_if_ne (tgt := 24) hx hb dX6_width_19 (by decide) (fun c4 => ?_) (fun c4 => ?_)
    · have hB := it_f c4 hB
      refine lv_iload_n hx hb dX6_width_24 rfl (lv_at hl 1 rfl) ?_
      refine lv_iload_n hx hb dX6_width_25 rfl (lv_at hl 2 rfl) ?_
      refine lv_icmp_ne (tgt := 40) hx hb dX6_width_26 (by decide) (fun c5 => ?_) (fun c5 => ?_)
      · have hB := it_f c5 hB
        refine lv_aload_n hx hb dX6_width_40 rfl (lv_at hl 0 rfl) ?_
        refine r_get (v := .ref (ad 3)) (C := RX6) (T := TX6) (N := 13) hx hb hts hin_X6 hown hK hS (by decide) e_0 rfl 1 (by decide) hk_f19 rfl rfl dX6_width_41 ?_
        refine lv_iload_n hx hb dX6_width_44 rfl (lv_at hl 1 rfl) ?_
        refine lv_iload_n hx hb dX6_width_45 rfl (lv_at hl 2 rfl) ?_
        obtain ⟨t6, ht6, hB⟩ := bi_at hB
        refine r_ViP ⟨hx, hb, hml, hown, hts⟩ (c_X1_widthAt l dC dI ad cA σ 0 (by decide) a1 a2 t6 ht6) (cwV 2 hts gX6_width_X1_widthAt rfl rfl rfl (by decide +kernel) ⟨Nat.le_of_ble_eq_true rfl, Nat.le_of_ble_eq_true rfl⟩) hK hN hS (by decide) (e_net (k := 0) (by decide)) rfl rfl hl.1 rfl (Nat.le_of_ble_eq_true rfl) dX6_width_46 ⟨Nat.le_refl _, Nat.le_refl _⟩ (fun H locs hS => ?_)
        subst hQ
        exact r_iret hx hb hr hK hS (pz hB) hlocks dX6_width_49
      · have hB := it_t c5 hB
        refine lv_aload_n hx hb dX6_width_29 rfl (lv_at hl 0 rfl) ?_
        refine r_get (v := .ref (ad 3)) (C := RX6) (T := TX6) (N := 13) hx hb hts hin_X6 hown hK hS (by decide) e_0 rfl 1 (by decide) hk_f19 rfl rfl dX6_width_30 ?_
        refine lv_iload_n hx hb dX6_width_33 rfl (lv_at hl 1 rfl) ?_
        obtain ⟨t7, ht7, hB⟩ := bi_at hB
        refine r_ViP ⟨hx, hb, hml, hown, hts⟩ (c_X1_degree l dC dI ad cA σ 0 (by decide) a1 t7 ht7) (cwV 1 hts gX6_width_X1_degree rfl rfl rfl (by decide +kernel) ⟨Nat.le_of_ble_eq_true rfl, Nat.le_of_ble_eq_true rfl⟩) hK hN hS (by decide) (e_net (k := 0) (by decide)) rfl rfl hl.1 rfl (Nat.le_of_ble_eq_true rfl) dX6_width_34 ⟨Nat.le_refl _, Nat.le_refl _⟩ (fun H locs hS => ?_)
        refine lv_goto (tgt := 49) hx hb dX6_width_37 (by decide) ?_
        subst hQ
        exact r_iret hx hb hr hK hS (pz hB) hlocks dX6_width_49
    · have hB := it_t c4 hB
      refine lv_iconst (v := (-1 : Int32)) hx hb dX6_width_22 (by decide) ?_
      subst hQ
      exact r_iret hx hb hr hK hS (pz hB) hlocks dX6_width_23
set_option maxHeartbeats 4000000 in
set_option maxRecDepth 100000 in
theorem c_X6_areTwoNodes (l : Launch) (dC : Nat → ClassId) (dI : Nat → Nat → Nat) (ad : Nat → Nat) (cA : Nat → ClassId) (σ : Sg) (a1 : Int32) (a2 : Int32) (z : Int32) (hB : f_X6_areTwoNodes σ a1 a2 = some z) : Ki l dC dI ad cA yX6_areTwoNodes wsX6_areTwoNodes 1 21 [.ref (ad 0), .int a1, .int a2] σ (z, σ) := by
  refine mk_i (cc := cX6_areTwoNodes) (maxL := 3) (ret := (some .boolean)) (by decide) rfl (Nat.le_of_ble_eq_true rfl) ?_
  intro p e s m args below meth c Q H locs ls ⟨hx, hb, hr, hml, hown, hts, hlocks, hK, hN⟩ hQ hS hl
  have hown : s.vm.findClass RX6 = some m.cls := hown
  have hl : lv_has ls 3 [(0, .ref (ad 0)), (1, .int a1), (2, .int a2)] := hl
  have hk_f19 := hts (.fieldLink RX6 19 "ChanceNets" "now" "LChanceNets$Net;") (by decide +kernel)
  have hin_X6 : ∀ w ∈ u_ws RX6 TX6 13, w ∈ wsX6_areTwoNodes := by decide +kernel
  unfold f_X6_areTwoNodes at hB
  refine lv_aload_n hx hb dX6_areTwoNodes_0 rfl (lv_at hl 0 rfl) ?_
  refine r_get (v := .ref (ad 3)) (C := RX6) (T := TX6) (N := 13) hx hb hts hin_X6 hown hK hS (by decide) e_0 rfl 1 (by decide) hk_f19 rfl rfl dX6_areTwoNodes_1 ?_
  refine lv_iload_n hx hb dX6_areTwoNodes_4 rfl (lv_at hl 1 rfl) ?_
  obtain ⟨t1, ht1, hB⟩ := bi_at hB
  refine r_ViP ⟨hx, hb, hml, hown, hts⟩ (c_X1_hasNode l dC dI ad cA σ 0 (by decide) a1 t1 ht1) (cwV 1 hts gX6_areTwoNodes_X1_hasNode rfl rfl rfl (by decide +kernel) ⟨Nat.le_of_ble_eq_true rfl, Nat.le_of_ble_eq_true rfl⟩) hK hN hS (by decide) (e_net (k := 0) (by decide)) rfl rfl hl.1 rfl (Nat.le_of_ble_eq_true rfl) dX6_areTwoNodes_5 ⟨Nat.le_refl _, Nat.le_refl _⟩ (fun H locs hS => ?_)
  refine lv_if_eq (tgt := 31) hx hb dX6_areTwoNodes_8 (by decide) (fun c2 => ?_) (fun c2 => ?_)
  · have hB := it_t c2 hB
    refine lv_iconst (v := (0 : Int32)) hx hb dX6_areTwoNodes_31 (by decide) ?_
    subst hQ
    exact r_zret hx hb hr hK hS rfl (pz hB) hlocks dX6_areTwoNodes_32
  · have hB := it_f c2 hB
    refine lv_aload_n hx hb dX6_areTwoNodes_11 rfl (lv_at hl 0 rfl) ?_
    refine r_get (v := .ref (ad 3)) (C := RX6) (T := TX6) (N := 13) hx hb hts hin_X6 hown hK hS (by decide) e_0 rfl 1 (by decide) hk_f19 rfl rfl dX6_areTwoNodes_12 ?_
    refine lv_iload_n hx hb dX6_areTwoNodes_15 rfl (lv_at hl 2 rfl) ?_
    obtain ⟨t3, ht3, hB⟩ := bi_at hB
    refine r_ViP ⟨hx, hb, hml, hown, hts⟩ (c_X1_hasNode l dC dI ad cA σ 0 (by decide) a2 t3 ht3) (cwV 1 hts gX6_areTwoNodes_X1_hasNode rfl rfl rfl (by decide +kernel) ⟨Nat.le_of_ble_eq_true rfl, Nat.le_of_ble_eq_true rfl⟩) hK hN hS (by decide) (e_net (k := 0) (by decide)) rfl rfl hl.1 rfl (Nat.le_of_ble_eq_true rfl) dX6_areTwoNodes_16 ⟨Nat.le_refl _, Nat.le_refl _⟩ (fun H locs hS => ?_)
    refine lv_if_eq (tgt := 31) hx hb dX6_areTwoNodes_19 (by decide) (fun c4 => ?_) (fun c4 => ?_)
    · have hB := it_t c4 hB
      refine lv_iconst (v := (0 : Int32)) hx hb dX6_areTwoNodes_31 (by decide) ?_
      subst hQ
      exact r_zret hx hb hr hK hS rfl (pz hB) hlocks dX6_areTwoNodes_32
    · have hB := it_f c4 hB
      refine lv_iload_n hx hb dX6_areTwoNodes_22 rfl (lv_at hl 1 rfl) ?_
      refine lv_iload_n hx hb dX6_areTwoNodes_23 rfl (lv_at hl 2 rfl) ?_
      refine lv_icmp_eq (tgt := 31) hx hb dX6_areTwoNodes_24 (by decide) (fun c5 => ?_) (fun c5 => ?_)
      · have hB := it_t c5 hB
        refine lv_iconst (v := (0 : Int32)) hx hb dX6_areTwoNodes_31 (by decide) ?_
        subst hQ
        exact r_zret hx hb hr hK hS rfl (pz hB) hlocks dX6_areTwoNodes_32
      · have hB := it_f c5 hB
        refine lv_iconst (v := (1 : Int32)) hx hb dX6_areTwoNodes_27 (by decide) ?_
        refine lv_goto (tgt := 32) hx hb dX6_areTwoNodes_28 (by decide) ?_
        subst hQ
        exact r_zret hx hb hr hK hS rfl (pz hB) hlocks dX6_areTwoNodes_32
set_option maxHeartbeats 4000000 in
set_option maxRecDepth 100000 in
theorem c_X6_isWidth (l : Launch) (dC : Nat → ClassId) (dI : Nat → Nat → Nat) (ad : Nat → Nat) (cA : Nat → ClassId) (σ : Sg) (a1 : Int32) (z : Int32) (hB : f_X6_isWidth a1 = some z) : Ki l dC dI ad cA yX6_isWidth wsX6_isWidth 0 0 [.int a1] σ (z, σ) := by
  refine mk_i (cc := cX6_isWidth) (maxL := 1) (ret := (some .boolean)) (by decide) rfl (Nat.le_of_ble_eq_true rfl) ?_
  intro p e s m args below meth c Q H locs ls ⟨hx, hb, hr, hml, hown, hts, hlocks, hK, hN⟩ hQ hS hl
  have hown : s.vm.findClass RX6 = some m.cls := hown
  have hl : lv_has ls 1 [(0, .int a1)] := hl
  unfold f_X6_isWidth at hB
  refine lv_iload_n hx hb dX6_isWidth_0 rfl (lv_at hl 0 rfl) ?_
  refine lv_iconst (v := (1 : Int32)) hx hb dX6_isWidth_1 (by decide) ?_
  refine lv_icmp_lt (tgt := 15) hx hb dX6_isWidth_2 (by decide) (fun c1 => ?_) (fun c1 => ?_)
  · have hB := it_t c1 hB
    refine lv_iconst (v := (0 : Int32)) hx hb dX6_isWidth_15 (by decide) ?_
    subst hQ
    exact r_zret hx hb hr hK hS rfl (pz hB) hlocks dX6_isWidth_16
  · have hB := it_f c1 hB
    refine lv_iload_n hx hb dX6_isWidth_5 rfl (lv_at hl 0 rfl) ?_
    refine lv_bipush (v := (9 : Int32)) hx hb dX6_isWidth_6 (by decide) ?_
    refine lv_icmp_gt (tgt := 15) hx hb dX6_isWidth_8 (by decide) (fun c2 => ?_) (fun c2 => ?_)
    · have hB := it_t c2 hB
      refine lv_iconst (v := (0 : Int32)) hx hb dX6_isWidth_15 (by decide) ?_
      subst hQ
      exact r_zret hx hb hr hK hS rfl (pz hB) hlocks dX6_isWidth_16
    · have hB := it_f c2 hB
      refine lv_iconst (v := (1 : Int32)) hx hb dX6_isWidth_11 (by decide) ?_
      refine lv_goto (tgt := 16) hx hb dX6_isWidth_12 (by decide) ?_
      subst hQ
      exact r_zret hx hb hr hK hS rfl (pz hB) hlocks dX6_isWidth_16
set_option maxHeartbeats 4000000 in
set_option maxRecDepth 100000 in
theorem c_X2_loseOldest (l : Launch) (dC : Nat → ClassId) (dI : Nat → Nat → Nat) (ad : Nat → Nat) (cA : Nat → ClassId) (σ : Sg)  (z : Sg) (hB : f_X2_loseOldest σ = some z) : Kv l dC dI ad cA yX2_loseOldest wsX2_loseOldest 1 26 [.ref (ad 24)] σ z := by
  refine mk_v (cc := cX2_loseOldest) (maxL := 1) (ret := none) (by decide) rfl (Nat.le_of_ble_eq_true rfl) ?_
  intro p e s m args below meth c Q H locs ls ⟨hx, hb, hr, hml, hown, hts, hlocks, hK, hN⟩ hQ hS hl
  have hown : s.vm.findClass RX2 = some m.cls := hown
  have hl : lv_has ls 1 [(0, .ref (ad 24))] := hl
  have hk_f21 := hts (.fieldLink RX2 21 "ChanceNets$Past" "known" "I") (by decide +kernel)
  have hin_X2 : ∀ w ∈ u_ws RX2 TX2 4, w ∈ wsX2_loseOldest := by decide +kernel
  have hk_f9 := hts (.fieldLink RX2 9 "ChanceNets$Past" "lows" "[I") (by decide +kernel)
  have hk_m28 := hts (.methodLink RX2 28 arraycopyName) (by decide +kernel)
  have hk_nat := hts (.native arraycopyName) (by decide +kernel)
  have hk_sta := hts (.static arraycopyName) (by decide +kernel)
  have hk_isys := hts (.initialized "java/lang/System") (by decide +kernel)
  have hk_f15 := hts (.fieldLink RX2 15 "ChanceNets$Past" "highs" "[I") (by decide +kernel)
  have hk_f18 := hts (.fieldLink RX2 18 "ChanceNets$Past" "widths" "[I") (by decide +kernel)
  unfold f_X2_loseOldest at hB
  refine lv_aload_n hx hb dX2_loseOldest_0 rfl (lv_at hl 0 rfl) ?_
  refine lv_bipush (v := (11 : Int32)) hx hb dX2_loseOldest_1 (by decide) ?_
  refine r_put (σ' := pI σ 14 (11 : Int32)) (v := .int (11 : Int32)) (C := RX2) (T := TX2) (N := 4) hx hb hts hin_X2 tyX2 tyX2_ok nmX2 hown hK hS (by decide) e_24 rfl 3 (by decide) hk_f21 rfl rfl rfl rfl (Nat.le_of_ble_eq_true rfl) (fun d hd h => eo d hd h) rfl dX2_loseOldest_3 (fun H locs hS => ?_)
  obtain ⟨σ1, eσ1⟩ : ∃ t : Sg, t = pI σ 14 (11 : Int32) := ⟨_, rfl⟩
  rw [← eσ1] at hS
  have hB := vl_at eσ1 hB
  refine lv_aload_n hx hb dX2_loseOldest_6 rfl (lv_at hl 0 rfl) ?_
  refine r_get (v := .ref (ad 25)) (C := RX2) (T := TX2) (N := 4) hx hb hts hin_X2 hown hK hS (by decide) e_24 rfl 0 (by decide) hk_f9 rfl rfl dX2_loseOldest_7 ?_
  refine lv_iconst (v := (1 : Int32)) hx hb dX2_loseOldest_10 (by decide) ?_
  refine lv_aload_n hx hb dX2_loseOldest_11 rfl (lv_at hl 0 rfl) ?_
  refine r_get (v := .ref (ad 25)) (C := RX2) (T := TX2) (N := 4) hx hb hts hin_X2 hown hK hS (by decide) e_24 rfl 0 (by decide) hk_f9 rfl rfl dX2_loseOldest_12 ?_
  refine lv_iconst (v := (0 : Int32)) hx hb dX2_loseOldest_15 (by decide) ?_
  refine lv_aload_n hx hb dX2_loseOldest_16 rfl (lv_at hl 0 rfl) ?_
  refine r_get (v := .int (gI σ1 14)) (C := RX2) (T := TX2) (N := 4) hx hb hts hin_X2 hown hK hS (by decide) e_24 rfl 3 (by decide) hk_f21 rfl rfl dX2_loseOldest_17 ?_
  obtain ⟨h2, hB⟩ := gd_at hB
  refine r_copy hx hb (hml.trans hl.1.symm) hown hk_m28 hk_nat hk_sta hk_isys hK hS (by decide) (by decide) h2 (Nat.le_of_ble_eq_true rfl) (Nat.le_of_ble_eq_true rfl) dX2_loseOldest_20 (fun H locs hS => ?_)
  obtain ⟨σ3, eσ3⟩ : ∃ t : Sg, t = pAr σ1 25 (va_cpy (gA σ1 25) (gA σ1 25) (1 : Int32).toNatClampNeg (0 : Int32).toNatClampNeg (gI σ1 14).toNatClampNeg) := ⟨_, rfl⟩
  rw [← eσ3] at hS
  have hB := vl_at eσ3 hB
  refine lv_aload_n hx hb dX2_loseOldest_23 rfl (lv_at hl 0 rfl) ?_
  refine r_get (v := .ref (ad 26)) (C := RX2) (T := TX2) (N := 4) hx hb hts hin_X2 hown hK hS (by decide) e_24 rfl 1 (by decide) hk_f15 rfl rfl dX2_loseOldest_24 ?_
  refine lv_iconst (v := (1 : Int32)) hx hb dX2_loseOldest_27 (by decide) ?_
  refine lv_aload_n hx hb dX2_loseOldest_28 rfl (lv_at hl 0 rfl) ?_
  refine r_get (v := .ref (ad 26)) (C := RX2) (T := TX2) (N := 4) hx hb hts hin_X2 hown hK hS (by decide) e_24 rfl 1 (by decide) hk_f15 rfl rfl dX2_loseOldest_29 ?_
  refine lv_iconst (v := (0 : Int32)) hx hb dX2_loseOldest_32 (by decide) ?_
  refine lv_aload_n hx hb dX2_loseOldest_33 rfl (lv_at hl 0 rfl) ?_
  refine r_get (v := .int (gI σ3 14)) (C := RX2) (T := TX2) (N := 4) hx hb hts hin_X2 hown hK hS (by decide) e_24 rfl 3 (by decide) hk_f21 rfl rfl dX2_loseOldest_34 ?_
  obtain ⟨h4, hB⟩ := gd_at hB
  refine r_copy hx hb (hml.trans hl.1.symm) hown hk_m28 hk_nat hk_sta hk_isys hK hS (by decide) (by decide) h4 (Nat.le_of_ble_eq_true rfl) (Nat.le_of_ble_eq_true rfl) dX2_loseOldest_37 (fun H locs hS => ?_)
  obtain ⟨σ5, eσ5⟩ : ∃ t : Sg, t = pAr σ3 26 (va_cpy (gA σ3 26) (gA σ3 26) (1 : Int32).toNatClampNeg (0 : Int32).toNatClampNeg (gI σ3 14).toNatClampNeg) := ⟨_, rfl⟩
  rw [← eσ5] at hS
  have hB := vl_at eσ5 hB
  refine lv_aload_n hx hb dX2_loseOldest_40 rfl (lv_at hl 0 rfl) ?_
  refine r_get (v := .ref (ad 27)) (C := RX2) (T := TX2) (N := 4) hx hb hts hin_X2 hown hK hS (by decide) e_24 rfl 2 (by decide) hk_f18 rfl rfl dX2_loseOldest_41 ?_
  refine lv_iconst (v := (1 : Int32)) hx hb dX2_loseOldest_44 (by decide) ?_
  refine lv_aload_n hx hb dX2_loseOldest_45 rfl (lv_at hl 0 rfl) ?_
  refine r_get (v := .ref (ad 27)) (C := RX2) (T := TX2) (N := 4) hx hb hts hin_X2 hown hK hS (by decide) e_24 rfl 2 (by decide) hk_f18 rfl rfl dX2_loseOldest_46 ?_
  refine lv_iconst (v := (0 : Int32)) hx hb dX2_loseOldest_49 (by decide) ?_
  refine lv_aload_n hx hb dX2_loseOldest_50 rfl (lv_at hl 0 rfl) ?_
  refine r_get (v := .int (gI σ5 14)) (C := RX2) (T := TX2) (N := 4) hx hb hts hin_X2 hown hK hS (by decide) e_24 rfl 3 (by decide) hk_f21 rfl rfl dX2_loseOldest_51 ?_
  obtain ⟨h6, hB⟩ := gd_at hB
  refine r_copy hx hb (hml.trans hl.1.symm) hown hk_m28 hk_nat hk_sta hk_isys hK hS (by decide) (by decide) h6 (Nat.le_of_ble_eq_true rfl) (Nat.le_of_ble_eq_true rfl) dX2_loseOldest_54 (fun H locs hS => ?_)
  obtain ⟨σ7, eσ7⟩ : ∃ t : Sg, t = pAr σ5 27 (va_cpy (gA σ5 27) (gA σ5 27) (1 : Int32).toNatClampNeg (0 : Int32).toNatClampNeg (gI σ5 14).toNatClampNeg) := ⟨_, rfl⟩
  rw [← eσ7] at hS
  have hB := vl_at eσ7 hB
  subst hQ
  exact r_vret hx hb hr hK hS hB hlocks dX2_loseOldest_57
set_option maxHeartbeats 4000000 in
set_option maxRecDepth 100000 in
theorem c_X2_notes (l : Launch) (dC : Nat → ClassId) (dI : Nat → Nat → Nat) (ad : Nat → Nat) (cA : Nat → ClassId) (σ : Sg) (a1 : Int32) (a2 : Int32) (a3 : Int32) (z : Sg) (hB : f_X2_notes σ a1 a2 a3 = some z) : Kv l dC dI ad cA yX2_notes wsX2_notes 2 46 [.ref (ad 24), .int a1, .int a2, .int a3] σ z := by
  refine mk_v (cc := cX2_notes) (maxL := 4) (ret := none) (by decide) rfl (Nat.le_of_ble_eq_true rfl) ?_
  intro p e s m args below meth c Q H locs ls ⟨hx, hb, hr, hml, hown, hts, hlocks, hK, hN⟩ hQ hS hl
  have hown : s.vm.findClass RX2 = some m.cls := hown
  have hl : lv_has ls 4 [(0, .ref (ad 24)), (1, .int a1), (2, .int a2), (3, .int a3)] := hl
  have hk_f21 := hts (.fieldLink RX2 21 "ChanceNets$Past" "known" "I") (by decide +kernel)
  have hin_X2 : ∀ w ∈ u_ws RX2 TX2 4, w ∈ wsX2_notes := by decide +kernel
  have hk_f9 := hts (.fieldLink RX2 9 "ChanceNets$Past" "lows" "[I") (by decide +kernel)
  have hk_f15 := hts (.fieldLink RX2 15 "ChanceNets$Past" "highs" "[I") (by decide +kernel)
  have hk_f18 := hts (.fieldLink RX2 18 "ChanceNets$Past" "widths" "[I") (by decide +kernel)
  unfold f_X2_notes at hB
  refine lv_aload_n hx hb dX2_notes_0 rfl (lv_at hl 0 rfl) ?_
  refine r_get (v := .int (gI σ 14)) (C := RX2) (T := TX2) (N := 4) hx hb hts hin_X2 hown hK hS (by decide) e_24 rfl 3 (by decide) hk_f21 rfl rfl dX2_notes_1 ?_
  refine lv_bipush (v := (12 : Int32)) hx hb dX2_notes_4 (by decide) ?_
  have hJ13 : ∀ (σ1 : Sg) (H : Heap) (locs : List Loc) (ls : Array Slot), f_X2_notes_J13 a1 a2 a3 σ1 = some z → ST dC dI ad cA s σ1 H locs → lv_has ls 4 [(0, .ref (ad 24)), (1, .int a1), (2, .int a2), (3, .int a3)] → W p l e (RM 2 46) s m args below meth c H locs 0 0 Q (F0 m 13 ls []) := by
    intro σ1 H locs ls hB hS hl
    unfold f_X2_notes_J13 at hB
    refine lv_aload_n hx hb dX2_notes_13 rfl (lv_at hl 0 rfl) ?_
    refine r_get (v := .ref (ad 25)) (C := RX2) (T := TX2) (N := 4) hx hb hts hin_X2 hown hK hS (by decide) e_24 rfl 0 (by decide) hk_f9 rfl rfl dX2_notes_14 ?_
    refine lv_aload_n hx hb dX2_notes_17 rfl (lv_at hl 0 rfl) ?_
    refine r_get (v := .int (gI σ1 14)) (C := RX2) (T := TX2) (N := 4) hx hb hts hin_X2 hown hK hS (by decide) e_24 rfl 3 (by decide) hk_f21 rfl rfl dX2_notes_18 ?_
    refine lv_iload_n hx hb dX2_notes_21 rfl (lv_at hl 1 rfl) ?_
    obtain ⟨h2, hB⟩ := gd_at hB
    refine r_iast hx hb hK hS h2 dX2_notes_22 (fun H locs hS => ?_)
    obtain ⟨σ3, eσ3⟩ : ∃ t : Sg, t = pA σ1 25 (gI σ1 14).toNatClampNeg a1 := ⟨_, rfl⟩
    rw [← eσ3] at hS
    have hB := vl_at eσ3 hB
    refine lv_aload_n hx hb dX2_notes_23 rfl (lv_at hl 0 rfl) ?_
    refine r_get (v := .ref (ad 26)) (C := RX2) (T := TX2) (N := 4) hx hb hts hin_X2 hown hK hS (by decide) e_24 rfl 1 (by decide) hk_f15 rfl rfl dX2_notes_24 ?_
    refine lv_aload_n hx hb dX2_notes_27 rfl (lv_at hl 0 rfl) ?_
    refine r_get (v := .int (gI σ3 14)) (C := RX2) (T := TX2) (N := 4) hx hb hts hin_X2 hown hK hS (by decide) e_24 rfl 3 (by decide) hk_f21 rfl rfl dX2_notes_28 ?_
    refine lv_iload_n hx hb dX2_notes_31 rfl (lv_at hl 2 rfl) ?_
    obtain ⟨h4, hB⟩ := gd_at hB
    refine r_iast hx hb hK hS h4 dX2_notes_32 (fun H locs hS => ?_)
    obtain ⟨σ5, eσ5⟩ : ∃ t : Sg, t = pA σ3 26 (gI σ3 14).toNatClampNeg a2 := ⟨_, rfl⟩
    rw [← eσ5] at hS
    have hB := vl_at eσ5 hB
    refine lv_aload_n hx hb dX2_notes_33 rfl (lv_at hl 0 rfl) ?_
    refine r_get (v := .ref (ad 27)) (C := RX2) (T := TX2) (N := 4) hx hb hts hin_X2 hown hK hS (by decide) e_24 rfl 2 (by decide) hk_f18 rfl rfl dX2_notes_34 ?_
    refine lv_aload_n hx hb dX2_notes_37 rfl (lv_at hl 0 rfl) ?_
    refine r_get (v := .int (gI σ5 14)) (C := RX2) (T := TX2) (N := 4) hx hb hts hin_X2 hown hK hS (by decide) e_24 rfl 3 (by decide) hk_f21 rfl rfl dX2_notes_38 ?_
    refine lv_iload_n hx hb dX2_notes_41 rfl (lv_at hl 3 rfl) ?_
    obtain ⟨h6, hB⟩ := gd_at hB
    refine r_iast hx hb hK hS h6 dX2_notes_42 (fun H locs hS => ?_)
    obtain ⟨σ7, eσ7⟩ : ∃ t : Sg, t = pA σ5 27 (gI σ5 14).toNatClampNeg a3 := ⟨_, rfl⟩
    rw [← eσ7] at hS
    have hB := vl_at eσ7 hB
    refine lv_aload_n hx hb dX2_notes_43 rfl (lv_at hl 0 rfl) ?_
    refine lv_dup hx hb dX2_notes_44 rfl ?_
    refine r_get (v := .int (gI σ7 14)) (C := RX2) (T := TX2) (N := 4) hx hb hts hin_X2 hown hK hS (by decide) e_24 rfl 3 (by decide) hk_f21 rfl rfl dX2_notes_45 ?_
    refine lv_iconst (v := (1 : Int32)) hx hb dX2_notes_48 (by decide) ?_
    refine lv_iadd hx hb dX2_notes_49 ?_
    refine lv_topi (fun x8 ex8 => ?_)
    have hB := vl_at ex8 hB
    refine r_put (σ' := pI σ7 14 x8) (v := .int x8) (C := RX2) (T := TX2) (N := 4) hx hb hts hin_X2 tyX2 tyX2_ok nmX2 hown hK hS (by decide) e_24 rfl 3 (by decide) hk_f21 rfl rfl rfl rfl (Nat.le_of_ble_eq_true rfl) (fun d hd h => eo d hd h) rfl dX2_notes_50 (fun H locs hS => ?_)
    obtain ⟨σ9, eσ9⟩ : ∃ t : Sg, t = pI σ7 14 x8 := ⟨_, rfl⟩
    rw [← eσ9] at hS
    have hB := vl_at eσ9 hB
    subst hQ
    exact r_vret hx hb hr hK hS hB hlocks dX2_notes_53
  refine lv_icmp_lt (tgt := 13) hx hb dX2_notes_6 (by decide) (fun c10 => ?_) (fun c10 => ?_)
  · have hB := it_t c10 hB
    exact hJ13 σ H locs ls hB hS (lv_sub hl [0, 1, 2, 3] rfl)
  · have hB := it_f c10 hB
    refine lv_aload_n hx hb dX2_notes_9 rfl (lv_at hl 0 rfl) ?_
    obtain ⟨t11, ht11, hB⟩ := bi_at hB
    refine r_Vv ⟨hx, hb, hml, hown, hts⟩ (c_X2_loseOldest l dC dI ad cA σ t11 ht11) (cwV 0 hts gX2_notes_X2_loseOldest rfl rfl rfl (by decide +kernel) ⟨Nat.le_of_ble_eq_true rfl, Nat.le_of_ble_eq_true rfl⟩) hK hN hS (by decide) e_24 rfl rfl hl.1 rfl (Nat.le_of_ble_eq_true rfl) dX2_notes_10 ⟨Nat.le_refl _, Nat.le_refl _⟩ (fun H locs hS => ?_)
    exact hJ13 t11 H locs ls hB hS (lv_sub hl [0, 1, 2, 3] rfl)
set_option maxHeartbeats 4000000 in
set_option maxRecDepth 100000 in
theorem c_X6_change (l : Launch) (dC : Nat → ClassId) (dI : Nat → Nat → Nat) (ad : Nat → Nat) (cA : Nat → ClassId) (σ : Sg) (a1 : Int32) (a2 : Int32) (a3 : Int32) (z : Sg) (hB : f_X6_change σ a1 a2 a3 = some z) : Kv l dC dI ad cA yX6_change wsX6_change 3 69 [.ref (ad 0), .int a1, .int a2, .int a3] σ z := by
  refine mk_v (cc := cX6_change) (maxL := 4) (ret := none) (by decide) rfl (Nat.le_of_ble_eq_true rfl) ?_
  intro p e s m args below meth c Q H locs ls ⟨hx, hb, hr, hml, hown, hts, hlocks, hK, hN⟩ hQ hS hl
  have hown : s.vm.findClass RX6 = some m.cls := hown
  have hl : lv_has ls 4 [(0, .ref (ad 0)), (1, .int a1), (2, .int a2), (3, .int a3)] := hl
  have hk_f36 := hts (.fieldLink RX6 36 "ChanceNets" "past" "LChanceNets$Past;") (by decide +kernel)
  have hin_X6 : ∀ w ∈ u_ws RX6 TX6 13, w ∈ wsX6_change := by decide +kernel
  have hk_f19 := hts (.fieldLink RX6 19 "ChanceNets" "now" "LChanceNets$Net;") (by decide +kernel)
  unfold f_X6_change at hB
  refine lv_aload_n hx hb dX6_change_0 rfl (lv_at hl 0 rfl) ?_
  refine r_get (v := .ref (ad 24)) (C := RX6) (T := TX6) (N := 13) hx hb hts hin_X6 hown hK hS (by decide) e_0 rfl 5 (by decide) hk_f36 rfl rfl dX6_change_1 ?_
  refine lv_iload_n hx hb dX6_change_4 rfl (lv_at hl 1 rfl) ?_
  refine lv_iload_n hx hb dX6_change_5 rfl (lv_at hl 2 rfl) ?_
  refine lv_aload_n hx hb dX6_change_6 rfl (lv_at hl 0 rfl) ?_
  refine r_get (v := .ref (ad 3)) (C := RX6) (T := TX6) (N := 13) hx hb hts hin_X6 hown hK hS (by decide) e_0 rfl 1 (by decide) hk_f19 rfl rfl dX6_change_7 ?_
  refine lv_iload_n hx hb dX6_change_10 rfl (lv_at hl 1 rfl) ?_
  refine lv_iload_n hx hb dX6_change_11 rfl (lv_at hl 2 rfl) ?_
  obtain ⟨t1, ht1, hB⟩ := bi_at hB
  refine r_ViP ⟨hx, hb, hml, hown, hts⟩ (c_X1_widthAt l dC dI ad cA σ 0 (by decide) a1 a2 t1 ht1) (cwV 2 hts gX6_change_X1_widthAt rfl rfl rfl (by decide +kernel) ⟨Nat.le_of_ble_eq_true rfl, Nat.le_of_ble_eq_true rfl⟩) hK hN hS (by decide) (e_net (k := 0) (by decide)) rfl rfl hl.1 rfl (Nat.le_of_ble_eq_true rfl) dX6_change_12 ⟨Nat.le_refl _, Nat.le_refl _⟩ (fun H locs hS => ?_)
  obtain ⟨t2, ht2, hB⟩ := bi_at hB
  refine r_Vv ⟨hx, hb, hml, hown, hts⟩ (c_X2_notes l dC dI ad cA σ a1 a2 t1 t2 ht2) (cwV 3 hts gX6_change_X2_notes rfl rfl rfl (by decide +kernel) ⟨Nat.le_of_ble_eq_true rfl, Nat.le_of_ble_eq_true rfl⟩) hK hN hS (by decide) e_24 rfl rfl hl.1 rfl (Nat.le_of_ble_eq_true rfl) dX6_change_15 ⟨Nat.le_refl _, Nat.le_refl _⟩ (fun H locs hS => ?_)
  refine lv_aload_n hx hb dX6_change_18 rfl (lv_at hl 0 rfl) ?_
  refine r_get (v := .ref (ad 3)) (C := RX6) (T := TX6) (N := 13) hx hb hts hin_X6 hown hK hS (by decide) e_0 rfl 1 (by decide) hk_f19 rfl rfl dX6_change_19 ?_
  refine lv_iload_n hx hb dX6_change_22 rfl (lv_at hl 1 rfl) ?_
  refine lv_iload_n hx hb dX6_change_23 rfl (lv_at hl 2 rfl) ?_
  refine lv_iload_n hx hb dX6_change_24 rfl (lv_at hl 3 rfl) ?_
  obtain ⟨t3, ht3, hB⟩ := bi_at hB
  refine r_Vv ⟨hx, hb, hml, hown, hts⟩ (c_X1_put l dC dI ad cA t2 0 (by decide) a1 a2 a3 t3 ht3) (cwV 3 hts gX6_change_X1_put rfl rfl rfl (by decide +kernel) ⟨Nat.le_of_ble_eq_true rfl, Nat.le_of_ble_eq_true rfl⟩) hK hN hS (by decide) (e_net (k := 0) (by decide)) rfl rfl hl.1 rfl (Nat.le_of_ble_eq_true rfl) dX6_change_25 ⟨Nat.le_refl _, Nat.le_refl _⟩ (fun H locs hS => ?_)
  subst hQ
  exact r_vret hx hb hr hK hS hB hlocks dX6_change_28
set_option maxHeartbeats 4000000 in
set_option maxRecDepth 100000 in
theorem c_X6_lays (l : Launch) (dC : Nat → ClassId) (dI : Nat → Nat → Nat) (ad : Nat → Nat) (cA : Nat → ClassId) (σ : Sg) (a1 : Int32) (a2 : Int32) (a3 : Int32) (z : Int32 × Sg) (hB : f_X6_lays σ a1 a2 a3 = some z) : Ki l dC dI ad cA yX6_lays wsX6_lays 4 92 [.ref (ad 0), .int a1, .int a2, .int a3] σ z := by
  refine mk_i (cc := cX6_lays) (maxL := 4) (ret := (some .int)) (by decide) rfl (Nat.le_of_ble_eq_true rfl) ?_
  intro p e s m args below meth c Q H locs ls ⟨hx, hb, hr, hml, hown, hts, hlocks, hK, hN⟩ hQ hS hl
  have hown : s.vm.findClass RX6 = some m.cls := hown
  have hl : lv_has ls 4 [(0, .ref (ad 0)), (1, .int a1), (2, .int a2), (3, .int a3)] := hl
  have hk_f19 := hts (.fieldLink RX6 19 "ChanceNets" "now" "LChanceNets$Net;") (by decide +kernel)
  have hin_X6 : ∀ w ∈ u_ws RX6 TX6 13, w ∈ wsX6_lays := by decide +kernel
  have hk_f130 := hts (.fieldLink RX6 130 "ChanceNets$Net" "lines" "I") (by decide +kernel)
  have hin_X1 : ∀ w ∈ u_ws RX1 TX1 5, w ∈ wsX6_lays := by decide +kernel
  unfold f_X6_lays at hB
  refine lv_aload_n hx hb dX6_lays_0 rfl (lv_at hl 0 rfl) ?_
  refine lv_iload_n hx hb dX6_lays_1 rfl (lv_at hl 1 rfl) ?_
  refine lv_iload_n hx hb dX6_lays_2 rfl (lv_at hl 2 rfl) ?_
  obtain ⟨t1, ht1, hB⟩ := bi_at hB
  refine r_ViP ⟨hx, hb, hml, hown, hts⟩ (c_X6_areTwoNodes l dC dI ad cA σ a1 a2 t1 ht1) (cwV 2 hts gX6_lays_X6_areTwoNodes rfl rfl rfl (by decide +kernel) ⟨Nat.le_of_ble_eq_true rfl, Nat.le_of_ble_eq_true rfl⟩) hK hN hS (by decide) e_0 rfl rfl hl.1 rfl (Nat.le_of_ble_eq_true rfl) dX6_lays_3 ⟨Nat.le_refl _, Nat.le_refl _⟩ (fun H locs hS => ?_)
  refine lv_if_eq (tgt := 16) hx hb dX6_lays_6 (by decide) (fun c2 => ?_) (fun c2 => ?_)
  · have hB := it_t c2 hB
    refine lv_iconst (v := (-1 : Int32)) hx hb dX6_lays_16 (by decide) ?_
    subst hQ
    exact r_iret hx hb hr hK hS hB hlocks dX6_lays_17
  · have hB := it_f c2 hB
    refine lv_iload_n hx hb dX6_lays_9 rfl (lv_at hl 3 rfl) ?_
    obtain ⟨t3, ht3, hB⟩ := bi_at hB
    refine r_SiP ⟨hx, hb, hml, hown, hts⟩ (c_X6_isWidth l dC dI ad cA σ a3 t3 ht3) (va_cwS 1 hts gX6_lays_X6_isWidth rfl rfl rfl (by decide +kernel) ⟨Nat.le_of_ble_eq_true rfl, Nat.le_of_ble_eq_true rfl⟩) hK hN hS rfl hl.1 rfl (Nat.le_of_ble_eq_true rfl) dX6_lays_10 ⟨Nat.le_refl _, Nat.le_refl _⟩ (fun H locs hS => ?_)
    refine lv_if_ne (tgt := 18) hx hb dX6_lays_13 (by decide) (fun c4 => ?_) (fun c4 => ?_)
    · have hB := it_f c4 hB
      refine lv_aload_n hx hb dX6_lays_18 rfl (lv_at hl 0 rfl) ?_
      refine r_get (v := .ref (ad 3)) (C := RX6) (T := TX6) (N := 13) hx hb hts hin_X6 hown hK hS (by decide) e_0 rfl 1 (by decide) hk_f19 rfl rfl dX6_lays_19 ?_
      refine lv_iload_n hx hb dX6_lays_22 rfl (lv_at hl 1 rfl) ?_
      refine lv_iload_n hx hb dX6_lays_23 rfl (lv_at hl 2 rfl) ?_
      obtain ⟨t5, ht5, hB⟩ := bi_at hB
      refine r_ViP ⟨hx, hb, hml, hown, hts⟩ (c_X1_widthAt l dC dI ad cA σ 0 (by decide) a1 a2 t5 ht5) (cwV 2 hts gX6_lays_X1_widthAt rfl rfl rfl (by decide +kernel) ⟨Nat.le_of_ble_eq_true rfl, Nat.le_of_ble_eq_true rfl⟩) hK hN hS (by decide) (e_net (k := 0) (by decide)) rfl rfl hl.1 rfl (Nat.le_of_ble_eq_true rfl) dX6_lays_24 ⟨Nat.le_refl _, Nat.le_refl _⟩ (fun H locs hS => ?_)
      refine lv_if_eq (tgt := 33) hx hb dX6_lays_27 (by decide) (fun c6 => ?_) (fun c6 => ?_)
      · have hB := it_t c6 hB
        refine lv_aload_n hx hb dX6_lays_33 rfl (lv_at hl 0 rfl) ?_
        refine r_get (v := .ref (ad 3)) (C := RX6) (T := TX6) (N := 13) hx hb hts hin_X6 hown hK hS (by decide) e_0 rfl 1 (by decide) hk_f19 rfl rfl dX6_lays_34 ?_
        refine r_get (v := .int (gI σ 5)) (C := RX1) (T := TX1) (N := 5) hx hb hts hin_X1 hown hK hS (by decide) (e_net (k := 0) (by decide)) rfl 1 (by decide) hk_f130 rfl rfl dX6_lays_37 ?_
        refine lv_bipush (v := (10 : Int32)) hx hb dX6_lays_40 (by decide) ?_
        refine lv_icmp_lt (tgt := 48) hx hb dX6_lays_42 (by decide) (fun c7 => ?_) (fun c7 => ?_)
        · have hB := it_t c7 hB
          refine lv_aload_n hx hb dX6_lays_48 rfl (lv_at hl 0 rfl) ?_
          refine lv_iload_n hx hb dX6_lays_49 rfl (lv_at hl 1 rfl) ?_
          refine lv_iload_n hx hb dX6_lays_50 rfl (lv_at hl 2 rfl) ?_
          refine lv_iload_n hx hb dX6_lays_51 rfl (lv_at hl 3 rfl) ?_
          obtain ⟨t8, ht8, hB⟩ := bi_at hB
          refine r_Vv ⟨hx, hb, hml, hown, hts⟩ (c_X6_change l dC dI ad cA σ a1 a2 a3 t8 ht8) (cwV 3 hts gX6_lays_X6_change rfl rfl rfl (by decide +kernel) ⟨Nat.le_of_ble_eq_true rfl, Nat.le_of_ble_eq_true rfl⟩) hK hN hS (by decide) e_0 rfl rfl hl.1 rfl (Nat.le_of_ble_eq_true rfl) dX6_lays_52 ⟨Nat.le_refl _, Nat.le_refl _⟩ (fun H locs hS => ?_)
          refine lv_aload_n hx hb dX6_lays_55 rfl (lv_at hl 0 rfl) ?_
          refine r_get (v := .ref (ad 3)) (C := RX6) (T := TX6) (N := 13) hx hb hts hin_X6 hown hK hS (by decide) e_0 rfl 1 (by decide) hk_f19 rfl rfl dX6_lays_56 ?_
          refine r_get (v := .int (gI t8 5)) (C := RX1) (T := TX1) (N := 5) hx hb hts hin_X1 hown hK hS (by decide) (e_net (k := 0) (by decide)) rfl 1 (by decide) hk_f130 rfl rfl dX6_lays_59 ?_
          subst hQ
          exact r_iret hx hb hr hK hS hB hlocks dX6_lays_62
        · have hB := it_f c7 hB
          refine lv_bipush (v := (-3 : Int32)) hx hb dX6_lays_45 (by decide) ?_
          subst hQ
          exact r_iret hx hb hr hK hS hB hlocks dX6_lays_47
      · have hB := it_f c6 hB
        refine lv_bipush (v := (-2 : Int32)) hx hb dX6_lays_30 (by decide) ?_
        subst hQ
        exact r_iret hx hb hr hK hS hB hlocks dX6_lays_32
    · have hB := it_t c4 hB
      refine lv_iconst (v := (-1 : Int32)) hx hb dX6_lays_16 (by decide) ?_
      subst hQ
      exact r_iret hx hb hr hK hS hB hlocks dX6_lays_17
set_option maxHeartbeats 4000000 in
set_option maxRecDepth 100000 in
theorem c_X6_widens (l : Launch) (dC : Nat → ClassId) (dI : Nat → Nat → Nat) (ad : Nat → Nat) (cA : Nat → ClassId) (σ : Sg) (a1 : Int32) (a2 : Int32) (z : Int32 × Sg) (hB : f_X6_widens σ a1 a2 = some z) : Ki l dC dI ad cA yX6_widens wsX6_widens 4 92 [.ref (ad 0), .int a1, .int a2] σ z := by
  refine mk_i (cc := cX6_widens) (maxL := 4) (ret := (some .int)) (by decide) rfl (Nat.le_of_ble_eq_true rfl) ?_
  intro p e s m args below meth c Q H locs ls ⟨hx, hb, hr, hml, hown, hts, hlocks, hK, hN⟩ hQ hS hl
  have hown : s.vm.findClass RX6 = some m.cls := hown
  have hl : lv_has ls 4 [(0, .ref (ad 0)), (1, .int a1), (2, .int a2)] := hl
  have hk_f19 := hts (.fieldLink RX6 19 "ChanceNets" "now" "LChanceNets$Net;") (by decide +kernel)
  have hin_X6 : ∀ w ∈ u_ws RX6 TX6 13, w ∈ wsX6_widens := by decide +kernel
  unfold f_X6_widens at hB
  refine lv_aload_n hx hb dX6_widens_0 rfl (lv_at hl 0 rfl) ?_
  refine r_get (v := .ref (ad 3)) (C := RX6) (T := TX6) (N := 13) hx hb hts hin_X6 hown hK hS (by decide) e_0 rfl 1 (by decide) hk_f19 rfl rfl dX6_widens_1 ?_
  refine lv_iload_n hx hb dX6_widens_4 rfl (lv_at hl 1 rfl) ?_
  obtain ⟨t1, ht1, hB⟩ := bi_at hB
  refine r_ViP ⟨hx, hb, hml, hown, hts⟩ (c_X1_hasLine l dC dI ad cA σ 0 (by decide) a1 t1 ht1) (cwV 1 hts gX6_widens_X1_hasLine rfl rfl rfl (by decide +kernel) ⟨Nat.le_of_ble_eq_true rfl, Nat.le_of_ble_eq_true rfl⟩) hK hN hS (by decide) (e_net (k := 0) (by decide)) rfl rfl hl.1 rfl (Nat.le_of_ble_eq_true rfl) dX6_widens_5 ⟨Nat.le_refl _, Nat.le_refl _⟩ (fun H locs hS => ?_)
  refine lv_if_eq (tgt := 18) hx hb dX6_widens_8 (by decide) (fun c2 => ?_) (fun c2 => ?_)
  · have hB := it_t c2 hB
    refine lv_iconst (v := (-1 : Int32)) hx hb dX6_widens_18 (by decide) ?_
    subst hQ
    exact r_iret hx hb hr hK hS hB hlocks dX6_widens_19
  · have hB := it_f c2 hB
    refine lv_iload_n hx hb dX6_widens_11 rfl (lv_at hl 2 rfl) ?_
    obtain ⟨t3, ht3, hB⟩ := bi_at hB
    refine r_SiP ⟨hx, hb, hml, hown, hts⟩ (c_X6_isWidth l dC dI ad cA σ a2 t3 ht3) (va_cwS 1 hts gX6_widens_X6_isWidth rfl rfl rfl (by decide +kernel) ⟨Nat.le_of_ble_eq_true rfl, Nat.le_of_ble_eq_true rfl⟩) hK hN hS rfl hl.1 rfl (Nat.le_of_ble_eq_true rfl) dX6_widens_12 ⟨Nat.le_refl _, Nat.le_refl _⟩ (fun H locs hS => ?_)
    refine lv_if_ne (tgt := 20) hx hb dX6_widens_15 (by decide) (fun c4 => ?_) (fun c4 => ?_)
    · have hB := it_f c4 hB
      refine lv_aload_n hx hb dX6_widens_20 rfl (lv_at hl 0 rfl) ?_
      refine r_get (v := .ref (ad 3)) (C := RX6) (T := TX6) (N := 13) hx hb hts hin_X6 hown hK hS (by decide) e_0 rfl 1 (by decide) hk_f19 rfl rfl dX6_widens_21 ?_
      refine lv_iload_n hx hb dX6_widens_24 rfl (lv_at hl 1 rfl) ?_
      obtain ⟨t5, ht5, hB⟩ := bi_at hB
      refine r_ViP ⟨hx, hb, hml, hown, hts⟩ (c_X1_widthOf l dC dI ad cA σ 0 (by decide) a1 t5 ht5) (cwV 1 hts gX6_widens_X1_widthOf rfl rfl rfl (by decide +kernel) ⟨Nat.le_of_ble_eq_true rfl, Nat.le_of_ble_eq_true rfl⟩) hK hN hS (by decide) (e_net (k := 0) (by decide)) rfl rfl hl.1 rfl (Nat.le_of_ble_eq_true rfl) dX6_widens_25 ⟨Nat.le_refl _, Nat.le_refl _⟩ (fun H locs hS => ?_)
      refine lv_istore_n (lv' := [(3, .int t5), (0, .ref (ad 0)), (1, .int a1), (2, .int a2)]) hx hb dX6_widens_28 rfl hl (by decide) rfl (fun ls hl => ?_)
      refine lv_iload_n hx hb dX6_widens_29 rfl (lv_at hl 0 rfl) ?_
      refine lv_iload_n hx hb dX6_widens_30 rfl (lv_at hl 3 rfl) ?_
      refine lv_icmp_ne (tgt := 37) hx hb dX6_widens_31 (by decide) (fun c6 => ?_) (fun c6 => ?_)
      · have hB := it_f c6 hB
        refine lv_aload_n hx hb dX6_widens_37 rfl (lv_at hl 1 rfl) ?_
        refine lv_aload_n hx hb dX6_widens_38 rfl (lv_at hl 1 rfl) ?_
        refine r_get (v := .ref (ad 3)) (C := RX6) (T := TX6) (N := 13) hx hb hts hin_X6 hown hK hS (by decide) e_0 rfl 1 (by decide) hk_f19 rfl rfl dX6_widens_39 ?_
        refine lv_iload_n hx hb dX6_widens_42 rfl (lv_at hl 2 rfl) ?_
        obtain ⟨t7, ht7, hB⟩ := bi_at hB
        refine r_ViP ⟨hx, hb, hml, hown, hts⟩ (c_X1_lowOf l dC dI ad cA σ 0 (by decide) a1 t7 ht7) (cwV 1 hts gX6_widens_X1_lowOf rfl rfl rfl (by decide +kernel) ⟨Nat.le_of_ble_eq_true rfl, Nat.le_of_ble_eq_true rfl⟩) hK hN hS (by decide) (e_net (k := 0) (by decide)) rfl rfl hl.1 rfl (Nat.le_of_ble_eq_true rfl) dX6_widens_43 ⟨Nat.le_refl _, Nat.le_refl _⟩ (fun H locs hS => ?_)
        refine lv_aload_n hx hb dX6_widens_46 rfl (lv_at hl 1 rfl) ?_
        refine r_get (v := .ref (ad 3)) (C := RX6) (T := TX6) (N := 13) hx hb hts hin_X6 hown hK hS (by decide) e_0 rfl 1 (by decide) hk_f19 rfl rfl dX6_widens_47 ?_
        refine lv_iload_n hx hb dX6_widens_50 rfl (lv_at hl 2 rfl) ?_
        obtain ⟨t8, ht8, hB⟩ := bi_at hB
        refine r_ViP ⟨hx, hb, hml, hown, hts⟩ (c_X1_highOf l dC dI ad cA σ 0 (by decide) a1 t8 ht8) (cwV 1 hts gX6_widens_X1_highOf rfl rfl rfl (by decide +kernel) ⟨Nat.le_of_ble_eq_true rfl, Nat.le_of_ble_eq_true rfl⟩) hK hN hS (by decide) (e_net (k := 0) (by decide)) rfl rfl hl.1 rfl (Nat.le_of_ble_eq_true rfl) dX6_widens_51 ⟨Nat.le_refl _, Nat.le_refl _⟩ (fun H locs hS => ?_)
        refine lv_iload_n hx hb dX6_widens_54 rfl (lv_at hl 3 rfl) ?_
        obtain ⟨t9, ht9, hB⟩ := bi_at hB
        refine r_Vv ⟨hx, hb, hml, hown, hts⟩ (c_X6_change l dC dI ad cA σ t7 t8 a2 t9 ht9) (cwV 3 hts gX6_widens_X6_change rfl rfl rfl (by decide +kernel) ⟨Nat.le_of_ble_eq_true rfl, Nat.le_of_ble_eq_true rfl⟩) hK hN hS (by decide) e_0 rfl rfl hl.1 rfl (Nat.le_of_ble_eq_true rfl) dX6_widens_55 ⟨Nat.le_refl _, Nat.le_refl _⟩ (fun H locs hS => ?_)
        refine lv_iload_n hx hb dX6_widens_58 rfl (lv_at hl 0 rfl) ?_
        subst hQ
        exact r_iret hx hb hr hK hS hB hlocks dX6_widens_59
      · have hB := it_t c6 hB
        refine lv_bipush (v := (-2 : Int32)) hx hb dX6_widens_34 (by decide) ?_
        subst hQ
        exact r_iret hx hb hr hK hS hB hlocks dX6_widens_36
    · have hB := it_t c4 hB
      refine lv_iconst (v := (-1 : Int32)) hx hb dX6_widens_18 (by decide) ?_
      subst hQ
      exact r_iret hx hb hr hK hS hB hlocks dX6_widens_19
set_option maxHeartbeats 4000000 in
set_option maxRecDepth 100000 in
theorem c_X6_cuts (l : Launch) (dC : Nat → ClassId) (dI : Nat → Nat → Nat) (ad : Nat → Nat) (cA : Nat → ClassId) (σ : Sg) (a1 : Int32) (z : Int32 × Sg) (hB : f_X6_cuts σ a1 = some z) : Ki l dC dI ad cA yX6_cuts wsX6_cuts 4 92 [.ref (ad 0), .int a1] σ z := by
  refine mk_i (cc := cX6_cuts) (maxL := 2) (ret := (some .int)) (by decide) rfl (Nat.le_of_ble_eq_true rfl) ?_
  intro p e s m args below meth c Q H locs ls ⟨hx, hb, hr, hml, hown, hts, hlocks, hK, hN⟩ hQ hS hl
  have hown : s.vm.findClass RX6 = some m.cls := hown
  have hl : lv_has ls 2 [(0, .ref (ad 0)), (1, .int a1)] := hl
  have hk_f19 := hts (.fieldLink RX6 19 "ChanceNets" "now" "LChanceNets$Net;") (by decide +kernel)
  have hin_X6 : ∀ w ∈ u_ws RX6 TX6 13, w ∈ wsX6_cuts := by decide +kernel
  have hk_f130 := hts (.fieldLink RX6 130 "ChanceNets$Net" "lines" "I") (by decide +kernel)
  have hin_X1 : ∀ w ∈ u_ws RX1 TX1 5, w ∈ wsX6_cuts := by decide +kernel
  unfold f_X6_cuts at hB
  refine lv_aload_n hx hb dX6_cuts_0 rfl (lv_at hl 0 rfl) ?_
  refine r_get (v := .ref (ad 3)) (C := RX6) (T := TX6) (N := 13) hx hb hts hin_X6 hown hK hS (by decide) e_0 rfl 1 (by decide) hk_f19 rfl rfl dX6_cuts_1 ?_
  refine lv_iload_n hx hb dX6_cuts_4 rfl (lv_at hl 1 rfl) ?_
  obtain ⟨t1, ht1, hB⟩ := bi_at hB
  refine r_ViP ⟨hx, hb, hml, hown, hts⟩ (c_X1_hasLine l dC dI ad cA σ 0 (by decide) a1 t1 ht1) (cwV 1 hts gX6_cuts_X1_hasLine rfl rfl rfl (by decide +kernel) ⟨Nat.le_of_ble_eq_true rfl, Nat.le_of_ble_eq_true rfl⟩) hK hN hS (by decide) (e_net (k := 0) (by decide)) rfl rfl hl.1 rfl (Nat.le_of_ble_eq_true rfl) dX6_cuts_5 ⟨Nat.le_refl _, Nat.le_refl _⟩ (fun H locs hS => ?_)
  refine lv_if_ne (tgt := 13) hx hb dX6_cuts_8 (by decide) (fun c2 => ?_) (fun c2 => ?_)
  · have hB := it_f c2 hB
    refine lv_aload_n hx hb dX6_cuts_13 rfl (lv_at hl 0 rfl) ?_
    refine lv_aload_n hx hb dX6_cuts_14 rfl (lv_at hl 0 rfl) ?_
    refine r_get (v := .ref (ad 3)) (C := RX6) (T := TX6) (N := 13) hx hb hts hin_X6 hown hK hS (by decide) e_0 rfl 1 (by decide) hk_f19 rfl rfl dX6_cuts_15 ?_
    refine lv_iload_n hx hb dX6_cuts_18 rfl (lv_at hl 1 rfl) ?_
    obtain ⟨t3, ht3, hB⟩ := bi_at hB
    refine r_ViP ⟨hx, hb, hml, hown, hts⟩ (c_X1_lowOf l dC dI ad cA σ 0 (by decide) a1 t3 ht3) (cwV 1 hts gX6_cuts_X1_lowOf rfl rfl rfl (by decide +kernel) ⟨Nat.le_of_ble_eq_true rfl, Nat.le_of_ble_eq_true rfl⟩) hK hN hS (by decide) (e_net (k := 0) (by decide)) rfl rfl hl.1 rfl (Nat.le_of_ble_eq_true rfl) dX6_cuts_19 ⟨Nat.le_refl _, Nat.le_refl _⟩ (fun H locs hS => ?_)
    refine lv_aload_n hx hb dX6_cuts_22 rfl (lv_at hl 0 rfl) ?_
    refine r_get (v := .ref (ad 3)) (C := RX6) (T := TX6) (N := 13) hx hb hts hin_X6 hown hK hS (by decide) e_0 rfl 1 (by decide) hk_f19 rfl rfl dX6_cuts_23 ?_
    refine lv_iload_n hx hb dX6_cuts_26 rfl (lv_at hl 1 rfl) ?_
    obtain ⟨t4, ht4, hB⟩ := bi_at hB
    refine r_ViP ⟨hx, hb, hml, hown, hts⟩ (c_X1_highOf l dC dI ad cA σ 0 (by decide) a1 t4 ht4) (cwV 1 hts gX6_cuts_X1_highOf rfl rfl rfl (by decide +kernel) ⟨Nat.le_of_ble_eq_true rfl, Nat.le_of_ble_eq_true rfl⟩) hK hN hS (by decide) (e_net (k := 0) (by decide)) rfl rfl hl.1 rfl (Nat.le_of_ble_eq_true rfl) dX6_cuts_27 ⟨Nat.le_refl _, Nat.le_refl _⟩ (fun H locs hS => ?_)
    refine lv_iconst (v := (0 : Int32)) hx hb dX6_cuts_30 (by decide) ?_
    obtain ⟨t5, ht5, hB⟩ := bi_at hB
    refine r_Vv ⟨hx, hb, hml, hown, hts⟩ (c_X6_change l dC dI ad cA σ t3 t4 (0 : Int32) t5 ht5) (cwV 3 hts gX6_cuts_X6_change rfl rfl rfl (by decide +kernel) ⟨Nat.le_of_ble_eq_true rfl, Nat.le_of_ble_eq_true rfl⟩) hK hN hS (by decide) e_0 rfl rfl hl.1 rfl (Nat.le_of_ble_eq_true rfl) dX6_cuts_31 ⟨Nat.le_refl _, Nat.le_refl _⟩ (fun H locs hS => ?_)
    refine lv_aload_n hx hb dX6_cuts_34 rfl (lv_at hl 0 rfl) ?_
    refine r_get (v := .ref (ad 3)) (C := RX6) (T := TX6) (N := 13) hx hb hts hin_X6 hown hK hS (by decide) e_0 rfl 1 (by decide) hk_f19 rfl rfl dX6_cuts_35 ?_
    refine r_get (v := .int (gI t5 5)) (C := RX1) (T := TX1) (N := 5) hx hb hts hin_X1 hown hK hS (by decide) (e_net (k := 0) (by decide)) rfl 1 (by decide) hk_f130 rfl rfl dX6_cuts_38 ?_
    subst hQ
    exact r_iret hx hb hr hK hS hB hlocks dX6_cuts_41
  · have hB := it_t c2 hB
    refine lv_iconst (v := (-1 : Int32)) hx hb dX6_cuts_11 (by decide) ?_
    subst hQ
    exact r_iret hx hb hr hK hS hB hlocks dX6_cuts_12
