set_option maxHeartbeats 4000000 in
set_option maxRecDepth 100000 in
theorem c_X3_drop (l : Launch) (dC : Nat → ClassId) (dI : Nat → Nat → Nat) (ad : Nat → Nat) (cA : Nat → ClassId) (σ : Sg) (a1 : Int32) (z : Sg) (hB : f_X3_drop σ a1 = some z) : Kv l dC dI ad cA yX3_drop wsX3_drop 4 98 [.ref (ad 39), .int a1] σ z := by
  refine mk_v (cc := cX3_drop) (maxL := 10) (ret := none) (by decide) rfl (Nat.le_of_ble_eq_true rfl) ?_
  intro p e s m args below meth c Q H locs ls ⟨hx, hb, hr, hml, hown, hts, hlocks, hK, hN⟩ hQ hS hl
  have hown : s.vm.findClass RX3 = some m.cls := hown
  have hl : lv_has ls 10 [(0, .ref (ad 39)), (1, .int a1)] := hl
  have hk_f22 := hts (.fieldLink RX3 22 "ChanceNets$Smaller" "nodes" "I") (by decide +kernel)
  have hin_X3 : ∀ w ∈ u_ws RX3 TX3 3, w ∈ wsX3_drop := by decide +kernel
  unfold f_X3_drop at hB
  refine lv_aload_n hx hb dX3_drop_0 rfl (lv_at hl 0 rfl) ?_
  refine lv_iload_n hx hb dX3_drop_1 rfl (lv_at hl 1 rfl) ?_
  refine lv_iconst (v := (0 : Int32)) hx hb dX3_drop_2 (by decide) ?_
  obtain ⟨t1, ht1, hB⟩ := bi_at hB
  refine r_ViP ⟨hx, hb, hml, hown, hts⟩ (c_X3_neighbourFrom l dC dI ad cA σ a1 (0 : Int32) t1 ht1) (cwV 2 hts gX3_drop_X3_neighbourFrom rfl rfl rfl (by decide +kernel) ⟨Nat.le_of_ble_eq_true rfl, Nat.le_of_ble_eq_true rfl⟩) hK hN hS (by decide) e_39 rfl rfl hl.1 rfl (Nat.le_of_ble_eq_true rfl) dX3_drop_3 ⟨Nat.le_refl _, Nat.le_refl _⟩ (fun H locs hS => ?_)
  refine lv_istore_n (lv' := [(2, .int t1), (0, .ref (ad 39)), (1, .int a1)]) hx hb dX3_drop_6 rfl hl (by decide) rfl (fun ls hl => ?_)
  refine lv_aload_n hx hb dX3_drop_7 rfl (lv_at hl 1 rfl) ?_
  refine lv_iload_n hx hb dX3_drop_8 rfl (lv_at hl 2 rfl) ?_
  refine lv_iload_n hx hb dX3_drop_9 rfl (lv_at hl 0 rfl) ?_
  refine lv_iconst (v := (1 : Int32)) hx hb dX3_drop_10 (by decide) ?_
  refine lv_iadd hx hb dX3_drop_11 ?_
  obtain ⟨t2, ht2, hB⟩ := bi_at hB
  refine r_ViP ⟨hx, hb, hml, hown, hts⟩ (c_X3_neighbourFrom l dC dI ad cA σ a1 (t1 + (1 : Int32)) t2 ht2) (cwV 2 hts gX3_drop_X3_neighbourFrom rfl rfl rfl (by decide +kernel) ⟨Nat.le_of_ble_eq_true rfl, Nat.le_of_ble_eq_true rfl⟩) hK hN hS (by decide) e_39 rfl rfl hl.1 rfl (Nat.le_of_ble_eq_true rfl) dX3_drop_12 ⟨Nat.le_refl _, Nat.le_refl _⟩ (fun H locs hS => ?_)
  refine lv_istore_n (lv' := [(3, .int t2), (2, .int t1), (0, .ref (ad 39)), (1, .int a1)]) hx hb dX3_drop_15 rfl hl (by decide) rfl (fun ls hl => ?_)
  refine lv_iload_n hx hb dX3_drop_16 rfl (lv_at hl 0 rfl) ?_
  refine lv_aload_n hx hb dX3_drop_17 rfl (lv_at hl 2 rfl) ?_
  refine r_get (v := .int (gI σ 16)) (C := RX3) (T := TX3) (N := 3) hx hb hts hin_X3 hown hK hS (by decide) e_39 rfl 2 (by decide) hk_f22 rfl rfl dX3_drop_18 ?_
  have hJ101 : ∀ (σ3 : Sg) (H : Heap) (locs : List Loc) (ls : Array Slot), f_X3_drop_J101 a1 t1 σ3 = some z → ST dC dI ad cA s σ3 H locs → lv_has ls 10 [(0, .ref (ad 39)), (1, .int a1), (2, .int t1)] → W p l e (RM 4 98) s m args below meth c H locs 0 0 Q (F0 m 101 ls []) := by
    intro σ3 H locs ls hB hS hl
    unfold f_X3_drop_J101 at hB
    refine lv_aload_n hx hb dX3_drop_101 rfl (lv_at hl 0 rfl) ?_
    refine lv_iload_n hx hb dX3_drop_102 rfl (lv_at hl 1 rfl) ?_
    refine lv_iload_n hx hb dX3_drop_103 rfl (lv_at hl 2 rfl) ?_
    refine lv_lconst (v := (1 : Int64)) hx hb dX3_drop_104 (by decide) ?_
    refine lv_lconst (v := (0 : Int64)) hx hb dX3_drop_105 (by decide) ?_
    obtain ⟨t4, ht4, hB⟩ := bi_at hB
    refine r_Vv ⟨hx, hb, hml, hown, hts⟩ (c_X3_put l dC dI ad cA σ3 a1 t1 (1 : Int64) (0 : Int64) t4 ht4) (cwV 4 hts gX3_drop_X3_put rfl rfl rfl (by decide +kernel) ⟨Nat.le_of_ble_eq_true rfl, Nat.le_of_ble_eq_true rfl⟩) hK hN hS (by decide) e_39 rfl rfl hl.1 rfl (Nat.le_of_ble_eq_true rfl) dX3_drop_106 ⟨Nat.le_refl _, Nat.le_refl _⟩ (fun H locs hS => ?_)
    subst hQ
    exact r_vret hx hb hr hK hS hB hlocks dX3_drop_109
  refine lv_icmp_ge (tgt := 101) hx hb dX3_drop_21 (by decide) (fun c5 => ?_) (fun c5 => ?_)
  · have hB := it_t c5 hB
    exact hJ101 σ H locs ls hB hS (lv_sub hl [2, 3, 1] rfl)
  · have hB := it_f c5 hB
    refine lv_aload_n hx hb dX3_drop_24 rfl (lv_at hl 2 rfl) ?_
    refine lv_iload_n hx hb dX3_drop_25 rfl (lv_at hl 3 rfl) ?_
    refine lv_iload_n hx hb dX3_drop_26 rfl (lv_at hl 1 rfl) ?_
    obtain ⟨t6, ht6, hB⟩ := bi_at hB
    refine r_VlP ⟨hx, hb, hml, hown, hts⟩ (c_X3_upperAt l dC dI ad cA σ a1 t1 t6 ht6) (cwV 2 hts gX3_drop_X3_upperAt rfl rfl rfl (by decide +kernel) ⟨Nat.le_of_ble_eq_true rfl, Nat.le_of_ble_eq_true rfl⟩) hK hN hS (by decide) e_39 rfl rfl hl.1 rfl (Nat.le_of_ble_eq_true rfl) dX3_drop_27 ⟨Nat.le_refl _, Nat.le_refl _⟩ (fun H locs hS => ?_)
    refine lv_aload_n hx hb dX3_drop_30 rfl (lv_at hl 2 rfl) ?_
    refine lv_iload_n hx hb dX3_drop_31 rfl (lv_at hl 3 rfl) ?_
    refine lv_iload_n hx hb dX3_drop_32 rfl (lv_at hl 0 rfl) ?_
    obtain ⟨t7, ht7, hB⟩ := bi_at hB
    refine r_VlP ⟨hx, hb, hml, hown, hts⟩ (c_X3_lowerAt l dC dI ad cA σ a1 t2 t7 ht7) (cwV 2 hts gX3_drop_X3_lowerAt rfl rfl rfl (by decide +kernel) ⟨Nat.le_of_ble_eq_true rfl, Nat.le_of_ble_eq_true rfl⟩) hK hN hS (by decide) e_39 rfl rfl hl.1 rfl (Nat.le_of_ble_eq_true rfl) dX3_drop_33 ⟨Nat.le_refl _, Nat.le_refl _⟩ (fun H locs hS => ?_)
    refine lv_lmul hx hb dX3_drop_36 ?_
    refine lv_aload_n hx hb dX3_drop_37 rfl (lv_at hl 2 rfl) ?_
    refine lv_iload_n hx hb dX3_drop_38 rfl (lv_at hl 3 rfl) ?_
    refine lv_iload_n hx hb dX3_drop_39 rfl (lv_at hl 0 rfl) ?_
    obtain ⟨t8, ht8, hB⟩ := bi_at hB
    refine r_VlP ⟨hx, hb, hml, hown, hts⟩ (c_X3_upperAt l dC dI ad cA σ a1 t2 t8 ht8) (cwV 2 hts gX3_drop_X3_upperAt rfl rfl rfl (by decide +kernel) ⟨Nat.le_of_ble_eq_true rfl, Nat.le_of_ble_eq_true rfl⟩) hK hN hS (by decide) e_39 rfl rfl hl.1 rfl (Nat.le_of_ble_eq_true rfl) dX3_drop_40 ⟨Nat.le_refl _, Nat.le_refl _⟩ (fun H locs hS => ?_)
    refine lv_aload_n hx hb dX3_drop_43 rfl (lv_at hl 2 rfl) ?_
    refine lv_iload_n hx hb dX3_drop_44 rfl (lv_at hl 3 rfl) ?_
    refine lv_iload_n hx hb dX3_drop_45 rfl (lv_at hl 1 rfl) ?_
    obtain ⟨t9, ht9, hB⟩ := bi_at hB
    refine r_VlP ⟨hx, hb, hml, hown, hts⟩ (c_X3_lowerAt l dC dI ad cA σ a1 t1 t9 ht9) (cwV 2 hts gX3_drop_X3_lowerAt rfl rfl rfl (by decide +kernel) ⟨Nat.le_of_ble_eq_true rfl, Nat.le_of_ble_eq_true rfl⟩) hK hN hS (by decide) e_39 rfl rfl hl.1 rfl (Nat.le_of_ble_eq_true rfl) dX3_drop_46 ⟨Nat.le_refl _, Nat.le_refl _⟩ (fun H locs hS => ?_)
    refine lv_lmul hx hb dX3_drop_49 ?_
    refine lv_ladd hx hb dX3_drop_50 ?_
    refine lv_topl (fun x10 ex10 => ?_)
    have hB := vl_at ex10 hB
    refine lv_lstore (lv' := [(4, .long x10), (3, .int t2), (2, .int t1), (0, .ref (ad 39)), (1, .int a1)]) hx hb dX3_drop_51 hl (by decide) rfl (fun ls hl => ?_)
    refine lv_aload_n hx hb dX3_drop_53 rfl (lv_at hl 3 rfl) ?_
    refine lv_iload_n hx hb dX3_drop_54 rfl (lv_at hl 4 rfl) ?_
    refine lv_iload_n hx hb dX3_drop_55 rfl (lv_at hl 2 rfl) ?_
    obtain ⟨t11, ht11, hB⟩ := bi_at hB
    refine r_VlP ⟨hx, hb, hml, hown, hts⟩ (c_X3_lowerAt l dC dI ad cA σ a1 t1 t11 ht11) (cwV 2 hts gX3_drop_X3_lowerAt rfl rfl rfl (by decide +kernel) ⟨Nat.le_of_ble_eq_true rfl, Nat.le_of_ble_eq_true rfl⟩) hK hN hS (by decide) e_39 rfl rfl hl.1 rfl (Nat.le_of_ble_eq_true rfl) dX3_drop_56 ⟨Nat.le_refl _, Nat.le_refl _⟩ (fun H locs hS => ?_)
    refine lv_aload_n hx hb dX3_drop_59 rfl (lv_at hl 3 rfl) ?_
    refine lv_iload_n hx hb dX3_drop_60 rfl (lv_at hl 4 rfl) ?_
    refine lv_iload_n hx hb dX3_drop_61 rfl (lv_at hl 1 rfl) ?_
    obtain ⟨t12, ht12, hB⟩ := bi_at hB
    refine r_VlP ⟨hx, hb, hml, hown, hts⟩ (c_X3_lowerAt l dC dI ad cA σ a1 t2 t12 ht12) (cwV 2 hts gX3_drop_X3_lowerAt rfl rfl rfl (by decide +kernel) ⟨Nat.le_of_ble_eq_true rfl, Nat.le_of_ble_eq_true rfl⟩) hK hN hS (by decide) e_39 rfl rfl hl.1 rfl (Nat.le_of_ble_eq_true rfl) dX3_drop_62 ⟨Nat.le_refl _, Nat.le_refl _⟩ (fun H locs hS => ?_)
    refine lv_lmul hx hb dX3_drop_65 ?_
    refine lv_topl (fun x13 ex13 => ?_)
    have hB := vl_at ex13 hB
    refine lv_lstore (lv' := [(6, .long x13), (4, .long x10), (3, .int t2), (2, .int t1), (0, .ref (ad 39)), (1, .int a1)]) hx hb dX3_drop_66 hl (by decide) rfl (fun ls hl => ?_)
    refine lv_lload hx hb dX3_drop_68 (lv_at hl 1 rfl) ?_
    refine lv_lload hx hb dX3_drop_70 (lv_at hl 0 rfl) ?_
    obtain ⟨t14, ht14, hB⟩ := bi_at hB
    refine r_SNlP ⟨hx, hb, hml, hown, hts⟩ (c_X6_commonDivisor l dC dI ad cA σ x10 x13 t14 ht14) ⟨va_cnB 2 hts gX3_drop_X6_commonDivisor_n58 rfl rfl rfl hN (hts (.initialized RX6) (by decide +kernel)) (by decide +kernel) ⟨Nat.le_of_ble_eq_true rfl, Nat.le_of_ble_eq_true rfl⟩, hts (.static yX6_commonDivisor) (by decide +kernel), trivial⟩ hK hN hS rfl hl.1 rfl (Nat.le_of_ble_eq_true rfl) dX3_drop_72 ⟨Nat.le_refl _, Nat.le_refl _⟩ (fun H locs hS => ?_)
    refine lv_lstore (lv' := [(8, .long t14), (6, .long x13), (4, .long x10), (3, .int t2), (2, .int t1), (0, .ref (ad 39)), (1, .int a1)]) hx hb dX3_drop_75 hl (by decide) rfl (fun ls hl => ?_)
    refine lv_aload_n hx hb dX3_drop_77 rfl (lv_at hl 5 rfl) ?_
    refine lv_iload_n hx hb dX3_drop_78 rfl (lv_at hl 4 rfl) ?_
    refine lv_iload_n hx hb dX3_drop_79 rfl (lv_at hl 3 rfl) ?_
    refine lv_lload hx hb dX3_drop_80 (lv_at hl 2 rfl) ?_
    refine lv_lload hx hb dX3_drop_82 (lv_at hl 0 rfl) ?_
    obtain ⟨h15, hB⟩ := gd_at hB
    refine lv_ldiv hx hb dX3_drop_84 (of_decide_eq_true h15) ?_
    refine lv_lload hx hb dX3_drop_85 (lv_at hl 1 rfl) ?_
    refine lv_lload hx hb dX3_drop_87 (lv_at hl 0 rfl) ?_
    obtain ⟨h16, hB⟩ := gd_at hB
    refine lv_ldiv hx hb dX3_drop_89 (of_decide_eq_true h16) ?_
    obtain ⟨t17, ht17, hB⟩ := bi_at hB
    refine r_Vv ⟨hx, hb, hml, hown, hts⟩ (c_X3_laysBeside l dC dI ad cA σ t1 t2 (x10 / t14) (x13 / t14) t17 ht17) (cwV 4 hts gX3_drop_X3_laysBeside rfl rfl rfl (by decide +kernel) ⟨Nat.le_of_ble_eq_true rfl, Nat.le_of_ble_eq_true rfl⟩) hK hN hS (by decide) e_39 rfl rfl hl.1 rfl (Nat.le_of_ble_eq_true rfl) dX3_drop_90 ⟨Nat.le_refl _, Nat.le_refl _⟩ (fun H locs hS => ?_)
    refine lv_aload_n hx hb dX3_drop_93 rfl (lv_at hl 5 rfl) ?_
    refine lv_iload_n hx hb dX3_drop_94 rfl (lv_at hl 6 rfl) ?_
    refine lv_iload_n hx hb dX3_drop_95 rfl (lv_at hl 3 rfl) ?_
    refine lv_lconst (v := (1 : Int64)) hx hb dX3_drop_96 (by decide) ?_
    refine lv_lconst (v := (0 : Int64)) hx hb dX3_drop_97 (by decide) ?_
    obtain ⟨t18, ht18, hB⟩ := bi_at hB
    refine r_Vv ⟨hx, hb, hml, hown, hts⟩ (c_X3_put l dC dI ad cA t17 a1 t2 (1 : Int64) (0 : Int64) t18 ht18) (cwV 4 hts gX3_drop_X3_put rfl rfl rfl (by decide +kernel) ⟨Nat.le_of_ble_eq_true rfl, Nat.le_of_ble_eq_true rfl⟩) hK hN hS (by decide) e_39 rfl rfl hl.1 rfl (Nat.le_of_ble_eq_true rfl) dX3_drop_98 ⟨Nat.le_refl _, Nat.le_refl _⟩ (fun H locs hS => ?_)
    exact hJ101 t18 H locs ls hB hS (lv_sub hl [5, 6, 4] rfl)
set_option maxHeartbeats 4000000 in
set_option maxRecDepth 100000 in
theorem c_X3_reduces (l : Launch) (dC : Nat → ClassId) (dI : Nat → Nat → Nat) (ad : Nat → Nat) (cA : Nat → ClassId) (σ : Sg) (kn : Nat) (hkn : kn < 5) (a2 : Int32) (a3 : Int32) (z : Sg) (hB : f_X3_reduces σ kn a2 a3 = some z) : Kv l dC dI ad cA yX3_reduces wsX3_reduces 5 127 [.ref (ad 39), .ref (ad (3 + 4 * kn)), .int a2, .int a3] σ z := by
  refine mk_v (cc := cX3_reduces) (maxL := 6) (ret := none) (by decide) rfl (Nat.le_of_ble_eq_true rfl) ?_
  intro p e s m args below meth c Q H locs ls ⟨hx, hb, hr, hml, hown, hts, hlocks, hK, hN⟩ hQ hS hl
  have hown : s.vm.findClass RX3 = some m.cls := hown
  have hl : lv_has ls 6 [(0, .ref (ad 39)), (1, .ref (ad (3 + 4 * kn))), (2, .int a2), (3, .int a3)] := hl
  have hk_f22 := hts (.fieldLink RX3 22 "ChanceNets$Smaller" "nodes" "I") (by decide +kernel)
  have hin_X3 : ∀ w ∈ u_ws RX3 TX3 3, w ∈ wsX3_reduces := by decide +kernel
  unfold f_X3_reduces at hB
  refine lv_aload_n hx hb dX3_reduces_0 rfl (lv_at hl 0 rfl) ?_
  refine lv_aload_n hx hb dX3_reduces_1 rfl (lv_at hl 1 rfl) ?_
  obtain ⟨t1, ht1, hB⟩ := bi_at hB
  refine r_Vv ⟨hx, hb, hml, hown, hts⟩ (c_X3_load l dC dI ad cA σ kn hkn t1 ht1) (cwV 1 hts gX3_reduces_X3_load rfl rfl rfl (by decide +kernel) ⟨Nat.le_of_ble_eq_true rfl, Nat.le_of_ble_eq_true rfl⟩) hK hN hS (by decide) e_39 rfl rfl hl.1 rfl (Nat.le_of_ble_eq_true rfl) dX3_reduces_2 ⟨Nat.le_refl _, Nat.le_refl _⟩ (fun H locs hS => ?_)
  refine lv_iconst (v := (0 : Int32)) hx hb dX3_reduces_5 (by decide) ?_
  refine lv_istore (lv' := [(4, .int (0 : Int32)), (0, .ref (ad 39)), (1, .ref (ad (3 + 4 * kn))), (2, .int a2), (3, .int a3)]) hx hb dX3_reduces_6 hl (by decide) rfl (fun ls hl => ?_)
  obtain ⟨t9, ht9, hB⟩ := bi_at hB
  refine wl_W (body := fun a => f_X3_reduces_B8 a2 a3 a.1 a.2) (Hd := fun a : Int32 × Sg => ∀ (H : Heap) (locs : List Loc) (ls : Array Slot), ST dC dI ad cA s a.2 H locs → lv_has ls 6 [(0, .ref (ad 39)), (2, .int a2), (3, .int a3), (4, .int a.1)] → W p l e (RM 5 127) s m args below meth c H locs 0 0 Q (F0 m 8 ls [])) (Ex := fun b : (Sg) ⊕ (Sg) => Sum.elim (fun b : Sg => ∀ (H : Heap) (locs : List Loc) (ls : Array Slot), ST dC dI ad cA s b H locs → lv_has ls 6 [] → W p l e (RM 5 127) s m args below meth c H locs 0 0 Q (F0 m 45 ls [])) (fun v => some v = some z) b) ?_ FU _ t9 ht9 ?_ H locs ls hS (lv_sub hl [1, 3, 4, 0] rfl)
  · intro a r8 hB hI8 hE8 H locs ls hS hl
    obtain ⟨x2, σ3⟩ := a
    have hB : f_X3_reduces_B8 a2 a3 x2 σ3 = some r8 := hB
    unfold f_X3_reduces_B8 at hB
    have hS : ST dC dI ad cA s σ3 H locs := hS
    have hl : lv_has ls 6 [(0, .ref (ad 39)), (2, .int a2), (3, .int a3), (4, .int x2)] := hl
    show W p l e (RM 5 127) s m args below meth c H locs 0 0 Q (F0 m 8 ls [])
    refine lv_iload hx hb dX3_reduces_8 (lv_at hl 3 rfl) ?_
    refine lv_aload_n hx hb dX3_reduces_10 rfl (lv_at hl 0 rfl) ?_
    refine r_get (v := .int (gI σ3 16)) (C := RX3) (T := TX3) (N := 3) hx hb hts hin_X3 hown hK hS (by decide) e_39 rfl 2 (by decide) hk_f22 rfl rfl dX3_reduces_11 ?_
    refine lv_icmp_ge (tgt := 45) hx hb dX3_reduces_14 (by decide) (fun c4 => ?_) (fun c4 => ?_)
    · have hB := it_t c4 hB
      exact hE8 _ (Option.some.inj hB).symm H locs ls hS (lv_sub hl [] rfl)
    · have hB := it_f c4 hB
      refine lv_aload_n hx hb dX3_reduces_17 rfl (lv_at hl 0 rfl) ?_
      refine lv_iload_n hx hb dX3_reduces_18 rfl (lv_at hl 1 rfl) ?_
      refine lv_iload_n hx hb dX3_reduces_19 rfl (lv_at hl 2 rfl) ?_
      obtain ⟨t5, ht5, hB⟩ := bi_at hB
      refine r_ViP ⟨hx, hb, hml, hown, hts⟩ (c_X3_lowestToGo l dC dI ad cA σ3 a2 a3 t5 ht5) (cwV 2 hts gX3_reduces_X3_lowestToGo rfl rfl rfl (by decide +kernel) ⟨Nat.le_of_ble_eq_true rfl, Nat.le_of_ble_eq_true rfl⟩) hK hN hS (by decide) e_39 rfl rfl hl.1 rfl (Nat.le_of_ble_eq_true rfl) dX3_reduces_20 ⟨Nat.le_refl _, Nat.le_refl _⟩ (fun H locs hS => ?_)
      refine lv_istore (lv' := [(5, .int t5), (0, .ref (ad 39)), (2, .int a2), (3, .int a3), (4, .int x2)]) hx hb dX3_reduces_23 hl (by decide) rfl (fun ls hl => ?_)
      refine lv_iload hx hb dX3_reduces_25 (lv_at hl 0 rfl) ?_
      refine lv_bipush (v := (-9 : Int32)) hx hb dX3_reduces_27 (by decide) ?_
      refine lv_icmp_ne (tgt := 33) hx hb dX3_reduces_29 (by decide) (fun c6 => ?_) (fun c6 => ?_)
      · have hB := it_f c6 hB
        refine lv_aload_n hx hb dX3_reduces_33 rfl (lv_at hl 1 rfl) ?_
        refine lv_iload hx hb dX3_reduces_34 (lv_at hl 0 rfl) ?_
        obtain ⟨t7, ht7, hB⟩ := bi_at hB
        refine r_Vv ⟨hx, hb, hml, hown, hts⟩ (c_X3_drop l dC dI ad cA σ3 t5 t7 ht7) (cwV 1 hts gX3_reduces_X3_drop rfl rfl rfl (by decide +kernel) ⟨Nat.le_of_ble_eq_true rfl, Nat.le_of_ble_eq_true rfl⟩) hK hN hS (by decide) e_39 rfl rfl hl.1 rfl (Nat.le_of_ble_eq_true rfl) dX3_reduces_36 ⟨Nat.le_refl _, Nat.le_refl _⟩ (fun H locs hS => ?_)
        obtain ⟨x8, ex8⟩ : ∃ y : Int32, y = x2 + (1 : Int32) := ⟨_, rfl⟩
        have hB := vl_at ex8 hB
        refine lv_iinc (v := x8) (lv' := [(4, .int x8), (5, .int t5), (0, .ref (ad 39)), (2, .int a2), (3, .int a3)]) hx hb dX3_reduces_39 hl (k := 4) rfl (by rw [ex8]; rfl) (by decide) rfl (fun ls hl => ?_)
        refine lv_goto (tgt := 8) hx hb dX3_reduces_42 (by decide) ?_
        exact hI8 _ (Option.some.inj hB).symm H locs ls hS (lv_sub hl [2, 3, 4, 0] rfl)
      · have hB := it_t c6 hB
        subst hQ
        exact r_vret hx hb hr hK hS (hE8 _ (Option.some.inj hB).symm) hlocks dX3_reduces_32
  · rcases t9 with t9 | v
    · rw [Sum.elim_inl] at hB
      intro H locs ls hS hl
      have hS : ST dC dI ad cA s t9 H locs := hS
      have hl : lv_has ls 6 [] := hl
      show W p l e (RM 5 127) s m args below meth c H locs 0 0 Q (F0 m 45 ls [])
      subst hQ
      exact r_vret hx hb hr hK hS hB hlocks dX3_reduces_45
    · exact hB
set_option maxHeartbeats 4000000 in
set_option maxRecDepth 100000 in
theorem c_X3_linesLeft (l : Launch) (dC : Nat → ClassId) (dI : Nat → Nat → Nat) (ad : Nat → Nat) (cA : Nat → ClassId) (σ : Sg)  (z : Int32) (hB : f_X3_linesLeft σ = some z) : Ki l dC dI ad cA yX3_linesLeft wsX3_linesLeft 4 89 [.ref (ad 39)] σ (z, σ) := by
  refine mk_i (cc := cX3_linesLeft) (maxL := 3) (ret := (some .int)) (by decide) rfl (Nat.le_of_ble_eq_true rfl) ?_
  intro p e s m args below meth c Q H locs ls ⟨hx, hb, hr, hml, hown, hts, hlocks, hK, hN⟩ hQ hS hl
  have hown : s.vm.findClass RX3 = some m.cls := hown
  have hl : lv_has ls 3 [(0, .ref (ad 39))] := hl
  have hk_f22 := hts (.fieldLink RX3 22 "ChanceNets$Smaller" "nodes" "I") (by decide +kernel)
  have hin_X3 : ∀ w ∈ u_ws RX3 TX3 3, w ∈ wsX3_linesLeft := by decide +kernel
  unfold f_X3_linesLeft at hB
  refine lv_iconst (v := (0 : Int32)) hx hb dX3_linesLeft_0 (by decide) ?_
  refine lv_istore_n (lv' := [(1, .int (0 : Int32)), (0, .ref (ad 39))]) hx hb dX3_linesLeft_1 rfl hl (by decide) rfl (fun ls hl => ?_)
  refine lv_iconst (v := (0 : Int32)) hx hb dX3_linesLeft_2 (by decide) ?_
  refine lv_istore_n (lv' := [(2, .int (0 : Int32)), (1, .int (0 : Int32)), (0, .ref (ad 39))]) hx hb dX3_linesLeft_3 rfl hl (by decide) rfl (fun ls hl => ?_)
  obtain ⟨t7, ht7, hB⟩ := bi_at hB
  refine wl_W (body := fun a => f_X3_linesLeft_B4 σ a.1 a.2) (Hd := fun a : Int32 × Int32 => ∀ (H : Heap) (locs : List Loc) (ls : Array Slot), ST dC dI ad cA s σ H locs → lv_has ls 3 [(0, .ref (ad 39)), (1, .int a.1), (2, .int a.2)] → W p l e (RM 4 89) s m args below meth c H locs 0 0 Q (F0 m 4 ls [])) (Ex := fun b : Int32 => ∀ (H : Heap) (locs : List Loc) (ls : Array Slot), ST dC dI ad cA s σ H locs → lv_has ls 3 [(1, .int b)] → W p l e (RM 4 89) s m args below meth c H locs 0 0 Q (F0 m 26 ls [])) ?_ FU _ t7 ht7 ?_ H locs ls hS (lv_sub hl [2, 1, 0] rfl)
  · intro a r4 hB hI4 hE4 H locs ls hS hl
    obtain ⟨x1, x2⟩ := a
    have hB : f_X3_linesLeft_B4 σ x1 x2 = some r4 := hB
    unfold f_X3_linesLeft_B4 at hB
    have hS : ST dC dI ad cA s σ H locs := hS
    have hl : lv_has ls 3 [(0, .ref (ad 39)), (1, .int x1), (2, .int x2)] := hl
    show W p l e (RM 4 89) s m args below meth c H locs 0 0 Q (F0 m 4 ls [])
    refine lv_iload_n hx hb dX3_linesLeft_4 rfl (lv_at hl 2 rfl) ?_
    refine lv_aload_n hx hb dX3_linesLeft_5 rfl (lv_at hl 0 rfl) ?_
    refine r_get (v := .int (gI σ 16)) (C := RX3) (T := TX3) (N := 3) hx hb hts hin_X3 hown hK hS (by decide) e_39 rfl 2 (by decide) hk_f22 rfl rfl dX3_linesLeft_6 ?_
    refine lv_icmp_ge (tgt := 26) hx hb dX3_linesLeft_9 (by decide) (fun c3 => ?_) (fun c3 => ?_)
    · have hB := it_t c3 hB
      exact hE4 _ (Option.some.inj hB).symm H locs ls hS (lv_sub hl [1] rfl)
    · have hB := it_f c3 hB
      refine lv_iload_n hx hb dX3_linesLeft_12 rfl (lv_at hl 1 rfl) ?_
      refine lv_aload_n hx hb dX3_linesLeft_13 rfl (lv_at hl 0 rfl) ?_
      refine lv_iload_n hx hb dX3_linesLeft_14 rfl (lv_at hl 2 rfl) ?_
      obtain ⟨t4, ht4, hB⟩ := bi_at hB
      refine r_ViP ⟨hx, hb, hml, hown, hts⟩ (c_X3_linesAt l dC dI ad cA σ x2 t4 ht4) (cwV 1 hts gX3_linesLeft_X3_linesAt rfl rfl rfl (by decide +kernel) ⟨Nat.le_of_ble_eq_true rfl, Nat.le_of_ble_eq_true rfl⟩) hK hN hS (by decide) e_39 rfl rfl hl.1 rfl (Nat.le_of_ble_eq_true rfl) dX3_linesLeft_15 ⟨Nat.le_refl _, Nat.le_refl _⟩ (fun H locs hS => ?_)
      refine lv_iadd hx hb dX3_linesLeft_18 ?_
      refine lv_topi (fun x5 ex5 => ?_)
      have hB := vl_at ex5 hB
      refine lv_istore_n (lv' := [(1, .int x5), (0, .ref (ad 39)), (2, .int x2)]) hx hb dX3_linesLeft_19 rfl hl (by decide) rfl (fun ls hl => ?_)
      obtain ⟨x6, ex6⟩ : ∃ y : Int32, y = x2 + (1 : Int32) := ⟨_, rfl⟩
      have hB := vl_at ex6 hB
      refine lv_iinc (v := x6) (lv' := [(2, .int x6), (1, .int x5), (0, .ref (ad 39))]) hx hb dX3_linesLeft_20 hl (k := 2) rfl (by rw [ex6]; rfl) (by decide) rfl (fun ls hl => ?_)
      refine lv_goto (tgt := 4) hx hb dX3_linesLeft_23 (by decide) ?_
      exact hI4 _ (Option.some.inj hB).symm H locs ls hS (lv_sub hl [2, 1, 0] rfl)
  · skip
    intro H locs ls hS hl
    have hS : ST dC dI ad cA s σ H locs := hS
    have hl : lv_has ls 3 [(1, .int t7)] := hl
    show W p l e (RM 4 89) s m args below meth c H locs 0 0 Q (F0 m 26 ls [])
    refine lv_iload_n hx hb dX3_linesLeft_26 rfl (lv_at hl 0 rfl) ?_
    refine lv_iconst (v := (2 : Int32)) hx hb dX3_linesLeft_27 (by decide) ?_
    refine lv_idiv hx hb dX3_linesLeft_28 (by decide) ?_
    subst hQ
    exact r_iret hx hb hr hK hS (pz hB) hlocks dX3_linesLeft_29
set_option maxHeartbeats 4000000 in
set_option maxRecDepth 100000 in
theorem c_X6_reduced (l : Launch) (dC : Nat → ClassId) (dI : Nat → Nat → Nat) (ad : Nat → Nat) (cA : Nat → ClassId) (σ : Sg) (a1 : Int32) (a2 : Int32) (a3 : Int32) (z : Int64 × Sg) (hB : f_X6_reduced σ a1 a2 a3 = some z) : Kl l dC dI ad cA yX6_reduced wsX6_reduced 6 152 [.ref (ad 0), .int a1, .int a2, .int a3] σ z := by
  refine mk_l (cc := cX6_reduced) (maxL := 5) (ret := (some .long)) (by decide) rfl (Nat.le_of_ble_eq_true rfl) ?_
  intro p e s m args below meth c Q H locs ls ⟨hx, hb, hr, hml, hown, hts, hlocks, hK, hN⟩ hQ hS hl
  have hown : s.vm.findClass RX6 = some m.cls := hown
  have hl : lv_has ls 5 [(0, .ref (ad 0)), (1, .int a1), (2, .int a2), (3, .int a3)] := hl
  have hk_c143 := hts (.constantLong RX6 143 (-1)) (by decide +kernel)
  have hk_f19 := hts (.fieldLink RX6 19 "ChanceNets" "now" "LChanceNets$Net;") (by decide +kernel)
  have hin_X6 : ∀ w ∈ u_ws RX6 TX6 13, w ∈ wsX6_reduced := by decide +kernel
  have hk_f57 := hts (.fieldLink RX6 57 "ChanceNets" "smaller" "LChanceNets$Smaller;") (by decide +kernel)
  have hk_c199 := hts (.constantLong RX6 199 (-9)) (by decide +kernel)
  have hk_c149 := hts (.constantLong RX6 149 (-2)) (by decide +kernel)
  unfold f_X6_reduced at hB
  refine lv_aload_n hx hb dX6_reduced_0 rfl (lv_at hl 0 rfl) ?_
  refine lv_iload_n hx hb dX6_reduced_1 rfl (lv_at hl 1 rfl) ?_
  refine lv_iload_n hx hb dX6_reduced_2 rfl (lv_at hl 2 rfl) ?_
  obtain ⟨t1, ht1, hB⟩ := bi_at hB
  refine r_ViP ⟨hx, hb, hml, hown, hts⟩ (c_X6_areTwoNodes l dC dI ad cA σ a1 a2 t1 ht1) (cwV 2 hts gX6_reduced_X6_areTwoNodes rfl rfl rfl (by decide +kernel) ⟨Nat.le_of_ble_eq_true rfl, Nat.le_of_ble_eq_true rfl⟩) hK hN hS (by decide) e_0 rfl rfl hl.1 rfl (Nat.le_of_ble_eq_true rfl) dX6_reduced_3 ⟨Nat.le_refl _, Nat.le_refl _⟩ (fun H locs hS => ?_)
  refine lv_if_eq (tgt := 18) hx hb dX6_reduced_6 (by decide) (fun c2 => ?_) (fun c2 => ?_)
  · have hB := it_t c2 hB
    refine lv_ldc2 (v := (-1 : Int64)) hx hb hown hk_c143 dX6_reduced_18 ?_
    subst hQ
    exact r_lret hx hb hr hK hS hB hlocks dX6_reduced_21
  · have hB := it_f c2 hB
    refine lv_iload_n hx hb dX6_reduced_9 rfl (lv_at hl 3 rfl) ?_
    refine lv_if_lt (tgt := 18) hx hb dX6_reduced_10 (by decide) (fun c3 => ?_) (fun c3 => ?_)
    · have hB := it_t c3 hB
      refine lv_ldc2 (v := (-1 : Int64)) hx hb hown hk_c143 dX6_reduced_18 ?_
      subst hQ
      exact r_lret hx hb hr hK hS hB hlocks dX6_reduced_21
    · have hB := it_f c3 hB
      refine lv_iload_n hx hb dX6_reduced_13 rfl (lv_at hl 3 rfl) ?_
      refine lv_iconst (v := (2 : Int32)) hx hb dX6_reduced_14 (by decide) ?_
      refine lv_icmp_le (tgt := 22) hx hb dX6_reduced_15 (by decide) (fun c4 => ?_) (fun c4 => ?_)
      · have hB := it_t c4 hB
        refine lv_aload_n hx hb dX6_reduced_22 rfl (lv_at hl 0 rfl) ?_
        refine r_get (v := .ref (ad 3)) (C := RX6) (T := TX6) (N := 13) hx hb hts hin_X6 hown hK hS (by decide) e_0 rfl 1 (by decide) hk_f19 rfl rfl dX6_reduced_23 ?_
        obtain ⟨t5, ht5, hB⟩ := bi_at hB
        refine r_ViP ⟨hx, hb, hml, hown, hts⟩ (c_X1_hangs l dC dI ad cA σ 0 (by decide) t5 ht5) (cwV 0 hts gX6_reduced_X1_hangs rfl rfl rfl (by decide +kernel) ⟨Nat.le_of_ble_eq_true rfl, Nat.le_of_ble_eq_true rfl⟩) hK hN hS (by decide) (e_net (k := 0) (by decide)) rfl rfl hl.1 rfl (Nat.le_of_ble_eq_true rfl) dX6_reduced_26 ⟨Nat.le_refl _, Nat.le_refl _⟩ (fun H locs hS => ?_)
        refine lv_if_ne (tgt := 36) hx hb dX6_reduced_29 (by decide) (fun c6 => ?_) (fun c6 => ?_)
        · have hB := it_f c6 hB
          refine lv_aload_n hx hb dX6_reduced_36 rfl (lv_at hl 0 rfl) ?_
          refine r_get (v := .ref (ad 39)) (C := RX6) (T := TX6) (N := 13) hx hb hts hin_X6 hown hK hS (by decide) e_0 rfl 8 (by decide) hk_f57 rfl rfl dX6_reduced_37 ?_
          refine lv_aload_n hx hb dX6_reduced_40 rfl (lv_at hl 0 rfl) ?_
          refine r_get (v := .ref (ad 3)) (C := RX6) (T := TX6) (N := 13) hx hb hts hin_X6 hown hK hS (by decide) e_0 rfl 1 (by decide) hk_f19 rfl rfl dX6_reduced_41 ?_
          refine lv_iload_n hx hb dX6_reduced_44 rfl (lv_at hl 1 rfl) ?_
          refine lv_iload_n hx hb dX6_reduced_45 rfl (lv_at hl 2 rfl) ?_
          obtain ⟨t7, ht7, hB⟩ := bi_at hB
          refine r_Vv ⟨hx, hb, hml, hown, hts⟩ (c_X3_reduces l dC dI ad cA σ 0 (by decide) a1 a2 t7 ht7) (cwV 3 hts gX6_reduced_X3_reduces rfl rfl rfl (by decide +kernel) ⟨Nat.le_of_ble_eq_true rfl, Nat.le_of_ble_eq_true rfl⟩) hK hN hS (by decide) e_39 rfl rfl hl.1 rfl (Nat.le_of_ble_eq_true rfl) dX6_reduced_46 ⟨Nat.le_refl _, Nat.le_refl _⟩ (fun H locs hS => ?_)
          refine lv_aload_n hx hb dX6_reduced_49 rfl (lv_at hl 0 rfl) ?_
          refine r_get (v := .ref (ad 39)) (C := RX6) (T := TX6) (N := 13) hx hb hts hin_X6 hown hK hS (by decide) e_0 rfl 8 (by decide) hk_f57 rfl rfl dX6_reduced_50 ?_
          obtain ⟨t8, ht8, hB⟩ := bi_at hB
          refine r_ViP ⟨hx, hb, hml, hown, hts⟩ (c_X3_linesLeft l dC dI ad cA t7 t8 ht8) (cwV 0 hts gX6_reduced_X3_linesLeft rfl rfl rfl (by decide +kernel) ⟨Nat.le_of_ble_eq_true rfl, Nat.le_of_ble_eq_true rfl⟩) hK hN hS (by decide) e_39 rfl rfl hl.1 rfl (Nat.le_of_ble_eq_true rfl) dX6_reduced_53 ⟨Nat.le_refl _, Nat.le_refl _⟩ (fun H locs hS => ?_)
          refine lv_istore (lv' := [(4, .int t8), (0, .ref (ad 0)), (1, .int a1), (2, .int a2), (3, .int a3)]) hx hb dX6_reduced_56 hl (by decide) rfl (fun ls hl => ?_)
          refine lv_iload_n hx hb dX6_reduced_58 rfl (lv_at hl 4 rfl) ?_
          refine lv_if_ne (tgt := 66) hx hb dX6_reduced_59 (by decide) (fun c9 => ?_) (fun c9 => ?_)
          · have hB := it_f c9 hB
            refine lv_iload hx hb dX6_reduced_66 (lv_at hl 0 rfl) ?_
            refine lv_iconst (v := (1 : Int32)) hx hb dX6_reduced_68 (by decide) ?_
            refine lv_icmp_ne (tgt := 84) hx hb dX6_reduced_69 (by decide) (fun c10 => ?_) (fun c10 => ?_)
            · have hB := it_f c10 hB
              refine lv_ldc2 (v := (-9 : Int64)) hx hb hown hk_c199 dX6_reduced_84 ?_
              subst hQ
              exact r_lret hx hb hr hK hS hB hlocks dX6_reduced_87
            · have hB := it_t c10 hB
              refine lv_aload_n hx hb dX6_reduced_72 rfl (lv_at hl 1 rfl) ?_
              refine r_get (v := .ref (ad 39)) (C := RX6) (T := TX6) (N := 13) hx hb hts hin_X6 hown hK hS (by decide) e_0 rfl 8 (by decide) hk_f57 rfl rfl dX6_reduced_73 ?_
              refine lv_iload_n hx hb dX6_reduced_76 rfl (lv_at hl 2 rfl) ?_
              refine lv_iload_n hx hb dX6_reduced_77 rfl (lv_at hl 3 rfl) ?_
              obtain ⟨t11, ht11, hB⟩ := bi_at hB
              refine r_ViP ⟨hx, hb, hml, hown, hts⟩ (c_X3_joined l dC dI ad cA t7 a1 a2 t11 ht11) (cwV 2 hts gX6_reduced_X3_joined rfl rfl rfl (by decide +kernel) ⟨Nat.le_of_ble_eq_true rfl, Nat.le_of_ble_eq_true rfl⟩) hK hN hS (by decide) e_39 rfl rfl hl.1 rfl (Nat.le_of_ble_eq_true rfl) dX6_reduced_78 ⟨Nat.le_refl _, Nat.le_refl _⟩ (fun H locs hS => ?_)
              refine lv_if_ne (tgt := 88) hx hb dX6_reduced_81 (by decide) (fun c12 => ?_) (fun c12 => ?_)
              · have hB := it_f c12 hB
                refine lv_iload_n hx hb dX6_reduced_88 rfl (lv_at hl 4 rfl) ?_
                refine lv_iconst (v := (1 : Int32)) hx hb dX6_reduced_89 (by decide) ?_
                refine lv_icmp_ne (tgt := 105) hx hb dX6_reduced_90 (by decide) (fun c13 => ?_) (fun c13 => ?_)
                · have hB := it_f c13 hB
                  refine lv_aload_n hx hb dX6_reduced_105 rfl (lv_at hl 1 rfl) ?_
                  refine r_get (v := .ref (ad 39)) (C := RX6) (T := TX6) (N := 13) hx hb hts hin_X6 hown hK hS (by decide) e_0 rfl 8 (by decide) hk_f57 rfl rfl dX6_reduced_106 ?_
                  refine lv_iload_n hx hb dX6_reduced_109 rfl (lv_at hl 2 rfl) ?_
                  refine lv_iload_n hx hb dX6_reduced_110 rfl (lv_at hl 3 rfl) ?_
                  obtain ⟨t14, ht14, hB⟩ := bi_at hB
                  refine r_VlP ⟨hx, hb, hml, hown, hts⟩ (c_X3_lowerAt l dC dI ad cA t7 a1 a2 t14 ht14) (cwV 2 hts gX6_reduced_X3_lowerAt rfl rfl rfl (by decide +kernel) ⟨Nat.le_of_ble_eq_true rfl, Nat.le_of_ble_eq_true rfl⟩) hK hN hS (by decide) e_39 rfl rfl hl.1 rfl (Nat.le_of_ble_eq_true rfl) dX6_reduced_111 ⟨Nat.le_refl _, Nat.le_refl _⟩ (fun H locs hS => ?_)
                  subst hQ
                  exact r_lret hx hb hr hK hS hB hlocks dX6_reduced_114
                · have hB := it_t c13 hB
                  refine lv_aload_n hx hb dX6_reduced_93 rfl (lv_at hl 1 rfl) ?_
                  refine r_get (v := .ref (ad 39)) (C := RX6) (T := TX6) (N := 13) hx hb hts hin_X6 hown hK hS (by decide) e_0 rfl 8 (by decide) hk_f57 rfl rfl dX6_reduced_94 ?_
                  refine lv_iload_n hx hb dX6_reduced_97 rfl (lv_at hl 2 rfl) ?_
                  refine lv_iload_n hx hb dX6_reduced_98 rfl (lv_at hl 3 rfl) ?_
                  obtain ⟨t15, ht15, hB⟩ := bi_at hB
                  refine r_VlP ⟨hx, hb, hml, hown, hts⟩ (c_X3_upperAt l dC dI ad cA t7 a1 a2 t15 ht15) (cwV 2 hts gX6_reduced_X3_upperAt rfl rfl rfl (by decide +kernel) ⟨Nat.le_of_ble_eq_true rfl, Nat.le_of_ble_eq_true rfl⟩) hK hN hS (by decide) e_39 rfl rfl hl.1 rfl (Nat.le_of_ble_eq_true rfl) dX6_reduced_99 ⟨Nat.le_refl _, Nat.le_refl _⟩ (fun H locs hS => ?_)
                  refine lv_goto (tgt := 114) hx hb dX6_reduced_102 (by decide) ?_
                  subst hQ
                  exact r_lret hx hb hr hK hS hB hlocks dX6_reduced_114
              · have hB := it_t c12 hB
                refine lv_ldc2 (v := (-9 : Int64)) hx hb hown hk_c199 dX6_reduced_84 ?_
                subst hQ
                exact r_lret hx hb hr hK hS hB hlocks dX6_reduced_87
          · have hB := it_t c9 hB
            refine lv_iload hx hb dX6_reduced_62 (lv_at hl 0 rfl) ?_
            refine lv_i2l hx hb dX6_reduced_64 rfl ?_
            subst hQ
            exact r_lret hx hb hr hK hS hB hlocks dX6_reduced_65
        · have hB := it_t c6 hB
          refine lv_ldc2 (v := (-2 : Int64)) hx hb hown hk_c149 dX6_reduced_32 ?_
          subst hQ
          exact r_lret hx hb hr hK hS hB hlocks dX6_reduced_35
      · have hB := it_f c4 hB
        refine lv_ldc2 (v := (-1 : Int64)) hx hb hown hk_c143 dX6_reduced_18 ?_
        subst hQ
        exact r_lret hx hb hr hK hS hB hlocks dX6_reduced_21
set_option maxHeartbeats 4000000 in
set_option maxRecDepth 100000 in
theorem c_X6_worst (l : Launch) (dC : Nat → ClassId) (dI : Nat → Nat → Nat) (ad : Nat → Nat) (cA : Nat → ClassId) (σ : Sg) (a1 : Int32) (a2 : Int32) (z : Int32 × Sg) (hB : f_X6_worst σ a1 a2 = some z) : Ki l dC dI ad cA yX6_worst wsX6_worst 4 93 [.ref (ad 0), .int a1, .int a2] σ z := by
  refine mk_i (cc := cX6_worst) (maxL := 13) (ret := (some .int)) (by decide) rfl (Nat.le_of_ble_eq_true rfl) ?_
  intro p e s m args below meth c Q H locs ls ⟨hx, hb, hr, hml, hown, hts, hlocks, hK, hN⟩ hQ hS hl
  have hown : s.vm.findClass RX6 = some m.cls := hown
  have hl : lv_has ls 13 [(0, .ref (ad 0)), (1, .int a1), (2, .int a2)] := hl
  have hk_f19 := hts (.fieldLink RX6 19 "ChanceNets" "now" "LChanceNets$Net;") (by decide +kernel)
  have hin_X6 : ∀ w ∈ u_ws RX6 TX6 13, w ∈ wsX6_worst := by decide +kernel
  have hk_f130 := hts (.fieldLink RX6 130 "ChanceNets$Net" "lines" "I") (by decide +kernel)
  have hin_X1 : ∀ w ∈ u_ws RX1 TX1 5, w ∈ wsX6_worst := by decide +kernel
  have hk_f26 := hts (.fieldLink RX6 26 "ChanceNets" "less" "LChanceNets$Net;") (by decide +kernel)
  have hk_f43 := hts (.fieldLink RX6 43 "ChanceNets" "balance" "LChanceNets$Balance;") (by decide +kernel)
  unfold f_X6_worst at hB
  refine lv_aload_n hx hb dX6_worst_0 rfl (lv_at hl 0 rfl) ?_
  refine lv_iload_n hx hb dX6_worst_1 rfl (lv_at hl 1 rfl) ?_
  refine lv_iload_n hx hb dX6_worst_2 rfl (lv_at hl 2 rfl) ?_
  obtain ⟨t1, ht1, hB⟩ := bi_at hB
  refine r_ViP ⟨hx, hb, hml, hown, hts⟩ (c_X6_areTwoNodes l dC dI ad cA σ a1 a2 t1 ht1) (cwV 2 hts gX6_worst_X6_areTwoNodes rfl rfl rfl (by decide +kernel) ⟨Nat.le_of_ble_eq_true rfl, Nat.le_of_ble_eq_true rfl⟩) hK hN hS (by decide) e_0 rfl rfl hl.1 rfl (Nat.le_of_ble_eq_true rfl) dX6_worst_3 ⟨Nat.le_refl _, Nat.le_refl _⟩ (fun H locs hS => ?_)
  refine lv_if_ne (tgt := 11) hx hb dX6_worst_6 (by decide) (fun c2 => ?_) (fun c2 => ?_)
  · have hB := it_f c2 hB
    refine lv_aload_n hx hb dX6_worst_11 rfl (lv_at hl 0 rfl) ?_
    refine r_get (v := .ref (ad 3)) (C := RX6) (T := TX6) (N := 13) hx hb hts hin_X6 hown hK hS (by decide) e_0 rfl 1 (by decide) hk_f19 rfl rfl dX6_worst_12 ?_
    obtain ⟨t3, ht3, hB⟩ := bi_at hB
    refine r_ViP ⟨hx, hb, hml, hown, hts⟩ (c_X1_hangs l dC dI ad cA σ 0 (by decide) t3 ht3) (cwV 0 hts gX6_worst_X1_hangs rfl rfl rfl (by decide +kernel) ⟨Nat.le_of_ble_eq_true rfl, Nat.le_of_ble_eq_true rfl⟩) hK hN hS (by decide) (e_net (k := 0) (by decide)) rfl rfl hl.1 rfl (Nat.le_of_ble_eq_true rfl) dX6_worst_15 ⟨Nat.le_refl _, Nat.le_refl _⟩ (fun H locs hS => ?_)
    refine lv_if_ne (tgt := 24) hx hb dX6_worst_18 (by decide) (fun c4 => ?_) (fun c4 => ?_)
    · have hB := it_f c4 hB
      refine lv_bipush (v := (-9 : Int32)) hx hb dX6_worst_24 (by decide) ?_
      refine lv_istore_n (lv' := [(3, .int (-9 : Int32)), (0, .ref (ad 0)), (1, .int a1), (2, .int a2)]) hx hb dX6_worst_26 rfl hl (by decide) rfl (fun ls hl => ?_)
      refine lv_lconst (v := (0 : Int64)) hx hb dX6_worst_27 (by decide) ?_
      refine lv_lstore (lv' := [(4, .long (0 : Int64)), (3, .int (-9 : Int32)), (0, .ref (ad 0)), (1, .int a1), (2, .int a2)]) hx hb dX6_worst_28 hl (by decide) rfl (fun ls hl => ?_)
      refine lv_lconst (v := (1 : Int64)) hx hb dX6_worst_30 (by decide) ?_
      refine lv_lstore (lv' := [(6, .long (1 : Int64)), (4, .long (0 : Int64)), (3, .int (-9 : Int32)), (0, .ref (ad 0)), (1, .int a1), (2, .int a2)]) hx hb dX6_worst_31 hl (by decide) rfl (fun ls hl => ?_)
      refine lv_iconst (v := (0 : Int32)) hx hb dX6_worst_33 (by decide) ?_
      refine lv_istore (lv' := [(8, .int (0 : Int32)), (6, .long (1 : Int64)), (4, .long (0 : Int64)), (3, .int (-9 : Int32)), (0, .ref (ad 0)), (1, .int a1), (2, .int a2)]) hx hb dX6_worst_34 hl (by decide) rfl (fun ls hl => ?_)
      obtain ⟨t20, ht20, hB⟩ := bi_at hB
      refine wl_W (body := fun a => f_X6_worst_B36 a1 a2 a.1 a.2.1 a.2.2.1 a.2.2.2.1 a.2.2.2.2) (Hd := fun a : Int32 × Int64 × Int64 × Int32 × Sg => ∀ (H : Heap) (locs : List Loc) (ls : Array Slot), ST dC dI ad cA s a.2.2.2.2 H locs → lv_has ls 13 [(0, .ref (ad 0)), (1, .int a1), (2, .int a2), (3, .int a.1), (4, .long a.2.1), (6, .long a.2.2.1), (8, .int a.2.2.2.1)] → W p l e (RM 4 93) s m args below meth c H locs 0 0 Q (F0 m 36 ls [])) (Ex := fun b : Int32 × Sg => ∀ (H : Heap) (locs : List Loc) (ls : Array Slot), ST dC dI ad cA s b.2 H locs → lv_has ls 13 [(3, .int b.1)] → W p l e (RM 4 93) s m args below meth c H locs 0 0 Q (F0 m 123 ls [])) ?_ FU _ t20 ht20 ?_ H locs ls hS (lv_sub hl [4, 5, 6, 3, 2, 1, 0] rfl)
      · intro a r36 hB hI36 hE36 H locs ls hS hl
        obtain ⟨x5, x6, x7, x8, σ9⟩ := a
        have hB : f_X6_worst_B36 a1 a2 x5 x6 x7 x8 σ9 = some r36 := hB
        unfold f_X6_worst_B36 at hB
        have hS : ST dC dI ad cA s σ9 H locs := hS
        have hl : lv_has ls 13 [(0, .ref (ad 0)), (1, .int a1), (2, .int a2), (3, .int x5), (4, .long x6), (6, .long x7), (8, .int x8)] := hl
        show W p l e (RM 4 93) s m args below meth c H locs 0 0 Q (F0 m 36 ls [])
        refine lv_iload hx hb dX6_worst_36 (lv_at hl 6 rfl) ?_
        refine lv_aload_n hx hb dX6_worst_38 rfl (lv_at hl 0 rfl) ?_
        refine r_get (v := .ref (ad 3)) (C := RX6) (T := TX6) (N := 13) hx hb hts hin_X6 hown hK hS (by decide) e_0 rfl 1 (by decide) hk_f19 rfl rfl dX6_worst_39 ?_
        refine r_get (v := .int (gI σ9 5)) (C := RX1) (T := TX1) (N := 5) hx hb hts hin_X1 hown hK hS (by decide) (e_net (k := 0) (by decide)) rfl 1 (by decide) hk_f130 rfl rfl dX6_worst_42 ?_
        refine lv_icmp_ge (tgt := 123) hx hb dX6_worst_45 (by decide) (fun c10 => ?_) (fun c10 => ?_)
        · have hB := it_t c10 hB
          exact hE36 _ (Option.some.inj hB).symm H locs ls hS (lv_sub hl [3] rfl)
        · have hB := it_f c10 hB
          refine lv_aload_n hx hb dX6_worst_48 rfl (lv_at hl 0 rfl) ?_
          refine lv_iload hx hb dX6_worst_49 (lv_at hl 6 rfl) ?_
          obtain ⟨t11, ht11, hB⟩ := bi_at hB
          refine r_Vv ⟨hx, hb, hml, hown, hts⟩ (c_X6_leaveOut l dC dI ad cA σ9 x8 t11 ht11) (cwV 1 hts gX6_worst_X6_leaveOut rfl rfl rfl (by decide +kernel) ⟨Nat.le_of_ble_eq_true rfl, Nat.le_of_ble_eq_true rfl⟩) hK hN hS (by decide) e_0 rfl rfl hl.1 rfl (Nat.le_of_ble_eq_true rfl) dX6_worst_51 ⟨Nat.le_refl _, Nat.le_refl _⟩ (fun H locs hS => ?_)
          refine lv_aload_n hx hb dX6_worst_54 rfl (lv_at hl 0 rfl) ?_
          refine r_get (v := .ref (ad 11)) (C := RX6) (T := TX6) (N := 13) hx hb hts hin_X6 hown hK hS (by decide) e_0 rfl 3 (by decide) hk_f26 rfl rfl dX6_worst_55 ?_
          obtain ⟨t12, ht12, hB⟩ := bi_at hB
          refine r_ViP ⟨hx, hb, hml, hown, hts⟩ (c_X1_hangs l dC dI ad cA t11 2 (by decide) t12 ht12) (cwV 0 hts gX6_worst_X1_hangs rfl rfl rfl (by decide +kernel) ⟨Nat.le_of_ble_eq_true rfl, Nat.le_of_ble_eq_true rfl⟩) hK hN hS (by decide) (e_net (k := 2) (by decide)) rfl rfl hl.1 rfl (Nat.le_of_ble_eq_true rfl) dX6_worst_58 ⟨Nat.le_refl _, Nat.le_refl _⟩ (fun H locs hS => ?_)
          refine lv_if_eq (tgt := 117) hx hb dX6_worst_61 (by decide) (fun c13 => ?_) (fun c13 => ?_)
          · have hB := it_t c13 hB
            obtain ⟨x14, ex14⟩ : ∃ y : Int32, y = x8 + (1 : Int32) := ⟨_, rfl⟩
            have hB := vl_at ex14 hB
            refine lv_iinc (v := x14) (lv' := [(8, .int x14), (0, .ref (ad 0)), (1, .int a1), (2, .int a2), (3, .int x5), (4, .long x6), (6, .long x7)]) hx hb dX6_worst_117 hl (k := 6) rfl (by rw [ex14]; rfl) (by decide) rfl (fun ls hl => ?_)
            refine lv_goto (tgt := 36) hx hb dX6_worst_120 (by decide) ?_
            exact hI36 _ (Option.some.inj hB).symm H locs ls hS (lv_sub hl [1, 2, 3, 4, 5, 6, 0] rfl)
          · have hB := it_f c13 hB
            refine lv_aload_n hx hb dX6_worst_64 rfl (lv_at hl 0 rfl) ?_
            refine r_get (v := .ref (ad 28)) (C := RX6) (T := TX6) (N := 13) hx hb hts hin_X6 hown hK hS (by decide) e_0 rfl 6 (by decide) hk_f43 rfl rfl dX6_worst_65 ?_
            refine lv_aload_n hx hb dX6_worst_68 rfl (lv_at hl 0 rfl) ?_
            refine r_get (v := .ref (ad 11)) (C := RX6) (T := TX6) (N := 13) hx hb hts hin_X6 hown hK hS (by decide) e_0 rfl 3 (by decide) hk_f26 rfl rfl dX6_worst_69 ?_
            refine lv_iload_n hx hb dX6_worst_72 rfl (lv_at hl 1 rfl) ?_
            refine lv_iload_n hx hb dX6_worst_73 rfl (lv_at hl 2 rfl) ?_
            obtain ⟨t15, ht15, hB⟩ := bi_at hB
            refine r_Vl ⟨hx, hb, hml, hown, hts⟩ (c_X0_stepSum l dC dI ad cA t11 2 (by decide) a1 a2 t15 ht15) (cwV 3 hts gX6_worst_X0_stepSum rfl rfl rfl (by decide +kernel) ⟨Nat.le_of_ble_eq_true rfl, Nat.le_of_ble_eq_true rfl⟩) hK hN hS (by decide) e_28 rfl rfl hl.1 rfl (Nat.le_of_ble_eq_true rfl) dX6_worst_74 ⟨Nat.le_refl _, Nat.le_refl _⟩ (fun H locs hS => ?_)
            refine lv_lstore (lv' := [(9, .long t15.1), (0, .ref (ad 0)), (1, .int a1), (2, .int a2), (3, .int x5), (4, .long x6), (6, .long x7), (8, .int x8)]) hx hb dX6_worst_77 hl (by decide) rfl (fun ls hl => ?_)
            refine lv_aload_n hx hb dX6_worst_79 rfl (lv_at hl 1 rfl) ?_
            refine r_get (v := .ref (ad 28)) (C := RX6) (T := TX6) (N := 13) hx hb hts hin_X6 hown hK hS (by decide) e_0 rfl 6 (by decide) hk_f43 rfl rfl dX6_worst_80 ?_
            refine lv_aload_n hx hb dX6_worst_83 rfl (lv_at hl 1 rfl) ?_
            refine r_get (v := .ref (ad 11)) (C := RX6) (T := TX6) (N := 13) hx hb hts hin_X6 hown hK hS (by decide) e_0 rfl 3 (by decide) hk_f26 rfl rfl dX6_worst_84 ?_
            obtain ⟨t16, ht16, hB⟩ := bi_at hB
            refine r_Vl ⟨hx, hb, hml, hown, hts⟩ (c_X0_treeSum l dC dI ad cA t15.2 2 (by decide) t16 ht16) (cwV 1 hts gX6_worst_X0_treeSum rfl rfl rfl (by decide +kernel) ⟨Nat.le_of_ble_eq_true rfl, Nat.le_of_ble_eq_true rfl⟩) hK hN hS (by decide) e_28 rfl rfl hl.1 rfl (Nat.le_of_ble_eq_true rfl) dX6_worst_87 ⟨Nat.le_refl _, Nat.le_refl _⟩ (fun H locs hS => ?_)
            refine lv_lstore (lv' := [(11, .long t16.1), (9, .long t15.1), (0, .ref (ad 0)), (1, .int a1), (2, .int a2), (3, .int x5), (4, .long x6), (6, .long x7), (8, .int x8)]) hx hb dX6_worst_90 hl (by decide) rfl (fun ls hl => ?_)
            refine lv_lload hx hb dX6_worst_92 (lv_at hl 1 rfl) ?_
            refine lv_lload hx hb dX6_worst_94 (lv_at hl 7 rfl) ?_
            refine lv_lmul hx hb dX6_worst_96 ?_
            refine lv_lload hx hb dX6_worst_97 (lv_at hl 6 rfl) ?_
            refine lv_lload hx hb dX6_worst_99 (lv_at hl 0 rfl) ?_
            refine lv_lmul hx hb dX6_worst_101 ?_
            refine W.lcmp hx hb dX6_worst_102 ?_
            refine lv_if_le (tgt := 117) hx hb dX6_worst_103 (by decide) (fun c17 => ?_) (fun c17 => ?_)
            · have hB := it_t ((lg_cmp_le _ _).mp c17) hB
              obtain ⟨x18, ex18⟩ : ∃ y : Int32, y = x8 + (1 : Int32) := ⟨_, rfl⟩
              have hB := vl_at ex18 hB
              refine lv_iinc (v := x18) (lv' := [(8, .int x18), (11, .long t16.1), (9, .long t15.1), (0, .ref (ad 0)), (1, .int a1), (2, .int a2), (3, .int x5), (4, .long x6), (6, .long x7)]) hx hb dX6_worst_117 hl (k := 8) rfl (by rw [ex18]; rfl) (by decide) rfl (fun ls hl => ?_)
              refine lv_goto (tgt := 36) hx hb dX6_worst_120 (by decide) ?_
              exact hI36 _ (Option.some.inj hB).symm H locs ls hS (lv_sub hl [3, 4, 5, 6, 7, 8, 0] rfl)
            · have hB := it_f (fun q => c17 ((lg_cmp_le _ _).mpr q)) hB
              refine lv_iload hx hb dX6_worst_106 (lv_at hl 8 rfl) ?_
              refine lv_istore_n (lv' := [(3, .int x8), (11, .long t16.1), (9, .long t15.1), (0, .ref (ad 0)), (1, .int a1), (2, .int a2), (4, .long x6), (6, .long x7), (8, .int x8)]) hx hb dX6_worst_108 rfl hl (by decide) rfl (fun ls hl => ?_)
              refine lv_lload hx hb dX6_worst_109 (lv_at hl 2 rfl) ?_
              refine lv_lstore (lv' := [(4, .long t15.1), (3, .int x8), (11, .long t16.1), (9, .long t15.1), (0, .ref (ad 0)), (1, .int a1), (2, .int a2), (6, .long x7), (8, .int x8)]) hx hb dX6_worst_111 hl (by decide) rfl (fun ls hl => ?_)
              refine lv_lload hx hb dX6_worst_113 (lv_at hl 2 rfl) ?_
              refine lv_lstore (lv' := [(6, .long t16.1), (4, .long t15.1), (3, .int x8), (11, .long t16.1), (9, .long t15.1), (0, .ref (ad 0)), (1, .int a1), (2, .int a2), (8, .int x8)]) hx hb dX6_worst_115 hl (by decide) rfl (fun ls hl => ?_)
              obtain ⟨x19, ex19⟩ : ∃ y : Int32, y = x8 + (1 : Int32) := ⟨_, rfl⟩
              have hB := vl_at ex19 hB
              refine lv_iinc (v := x19) (lv' := [(8, .int x19), (6, .long t16.1), (4, .long t15.1), (3, .int x8), (11, .long t16.1), (9, .long t15.1), (0, .ref (ad 0)), (1, .int a1), (2, .int a2)]) hx hb dX6_worst_117 hl (k := 8) rfl (by rw [ex19]; rfl) (by decide) rfl (fun ls hl => ?_)
              refine lv_goto (tgt := 36) hx hb dX6_worst_120 (by decide) ?_
              exact hI36 _ (Option.some.inj hB).symm H locs ls hS (lv_sub hl [6, 7, 8, 3, 2, 1, 0] rfl)
      · skip
        intro H locs ls hS hl
        have hS : ST dC dI ad cA s t20.2 H locs := hS
        have hl : lv_has ls 13 [(3, .int t20.1)] := hl
        show W p l e (RM 4 93) s m args below meth c H locs 0 0 Q (F0 m 123 ls [])
        refine lv_iload_n hx hb dX6_worst_123 rfl (lv_at hl 0 rfl) ?_
        subst hQ
        exact r_iret hx hb hr hK hS hB hlocks dX6_worst_124
    · have hB := it_t c4 hB
      refine lv_bipush (v := (-2 : Int32)) hx hb dX6_worst_21 (by decide) ?_
      subst hQ
      exact r_iret hx hb hr hK hS hB hlocks dX6_worst_23
  · have hB := it_t c2 hB
    refine lv_iconst (v := (-1 : Int32)) hx hb dX6_worst_9 (by decide) ?_
    subst hQ
    exact r_iret hx hb hr hK hS hB hlocks dX6_worst_10
set_option maxHeartbeats 4000000 in
set_option maxRecDepth 100000 in
theorem c_J6_bitCount_0f7a4 (l : Launch) (dC : Nat → ClassId) (dI : Nat → Nat → Nat) (ad : Nat → Nat) (cA : Nat → ClassId) (σ : Sg) (a1 : Int32) (z : Int32) (hB : f_J6_bitCount_0f7a4 a1 = some z) : Ki l dC dI ad cA yJ6_bitCount_0f7a4 wsJ6_bitCount_0f7a4 0 0 [.int a1] σ (z, σ) := by
  refine mk_i (cc := cJ6_bitCount_0f7a4) (maxL := 1) (ret := (some .int)) (by decide) rfl (Nat.le_of_ble_eq_true rfl) ?_
  intro p e s m args below meth c Q H locs ls ⟨hx, hb, hr, hml, hown, hts, hlocks, hK, hN⟩ hQ hS hl
  have hown : s.vm.findClass RJ6 = some m.cls := hown
  have hl : lv_has ls 1 [(0, .int a1)] := hl
  have hk_c265 := hts (.constant RJ6 265 (1431655765)) (by decide +kernel)
  have hk_c266 := hts (.constant RJ6 266 (858993459)) (by decide +kernel)
  have hk_c267 := hts (.constant RJ6 267 (252645135)) (by decide +kernel)
  unfold f_J6_bitCount_0f7a4 at hB
  refine lv_iload_n hx hb dJ6_bitCount_0f7a4_0 rfl (lv_at hl 0 rfl) ?_
  refine lv_iload_n hx hb dJ6_bitCount_0f7a4_1 rfl (lv_at hl 0 rfl) ?_
  refine lv_iconst (v := (1 : Int32)) hx hb dJ6_bitCount_0f7a4_2 (by decide) ?_
  refine lv_iushr hx hb dJ6_bitCount_0f7a4_3 rfl ?_
  refine lv_ldcw (v := (1431655765 : Int32)) hx hb hown hk_c265 dJ6_bitCount_0f7a4_4 ?_
  refine lv_iand hx hb dJ6_bitCount_0f7a4_7 ?_
  refine lv_isub hx hb dJ6_bitCount_0f7a4_8 ?_
  refine lv_topi (fun x1 ex1 => ?_)
  have hB := vl_at ex1 hB
  refine lv_istore_n (lv' := [(0, .int x1)]) hx hb dJ6_bitCount_0f7a4_9 rfl hl (by decide) rfl (fun ls hl => ?_)
  refine lv_iload_n hx hb dJ6_bitCount_0f7a4_10 rfl (lv_at hl 0 rfl) ?_
  refine lv_ldcw (v := (858993459 : Int32)) hx hb hown hk_c266 dJ6_bitCount_0f7a4_11 ?_
  refine lv_iand hx hb dJ6_bitCount_0f7a4_14 ?_
  refine lv_iload_n hx hb dJ6_bitCount_0f7a4_15 rfl (lv_at hl 0 rfl) ?_
  refine lv_iconst (v := (2 : Int32)) hx hb dJ6_bitCount_0f7a4_16 (by decide) ?_
  refine lv_iushr hx hb dJ6_bitCount_0f7a4_17 rfl ?_
  refine lv_ldcw (v := (858993459 : Int32)) hx hb hown hk_c266 dJ6_bitCount_0f7a4_18 ?_
  refine lv_iand hx hb dJ6_bitCount_0f7a4_21 ?_
  refine lv_iadd hx hb dJ6_bitCount_0f7a4_22 ?_
  refine lv_topi (fun x2 ex2 => ?_)
  have hB := vl_at ex2 hB
  refine lv_istore_n (lv' := [(0, .int x2)]) hx hb dJ6_bitCount_0f7a4_23 rfl hl (by decide) rfl (fun ls hl => ?_)
  refine lv_iload_n hx hb dJ6_bitCount_0f7a4_24 rfl (lv_at hl 0 rfl) ?_
  refine lv_iload_n hx hb dJ6_bitCount_0f7a4_25 rfl (lv_at hl 0 rfl) ?_
  refine lv_iconst (v := (4 : Int32)) hx hb dJ6_bitCount_0f7a4_26 (by decide) ?_
  refine lv_iushr hx hb dJ6_bitCount_0f7a4_27 rfl ?_
  refine lv_iadd hx hb dJ6_bitCount_0f7a4_28 ?_
  refine lv_ldcw (v := (252645135 : Int32)) hx hb hown hk_c267 dJ6_bitCount_0f7a4_29 ?_
  refine lv_iand hx hb dJ6_bitCount_0f7a4_32 ?_
  refine lv_topi (fun x3 ex3 => ?_)
  have hB := vl_at ex3 hB
  refine lv_istore_n (lv' := [(0, .int x3)]) hx hb dJ6_bitCount_0f7a4_33 rfl hl (by decide) rfl (fun ls hl => ?_)
  refine lv_iload_n hx hb dJ6_bitCount_0f7a4_34 rfl (lv_at hl 0 rfl) ?_
  refine lv_iload_n hx hb dJ6_bitCount_0f7a4_35 rfl (lv_at hl 0 rfl) ?_
  refine lv_bipush (v := (8 : Int32)) hx hb dJ6_bitCount_0f7a4_36 (by decide) ?_
  refine lv_iushr hx hb dJ6_bitCount_0f7a4_38 rfl ?_
  refine lv_iadd hx hb dJ6_bitCount_0f7a4_39 ?_
  refine lv_topi (fun x4 ex4 => ?_)
  have hB := vl_at ex4 hB
  refine lv_istore_n (lv' := [(0, .int x4)]) hx hb dJ6_bitCount_0f7a4_40 rfl hl (by decide) rfl (fun ls hl => ?_)
  refine lv_iload_n hx hb dJ6_bitCount_0f7a4_41 rfl (lv_at hl 0 rfl) ?_
  refine lv_iload_n hx hb dJ6_bitCount_0f7a4_42 rfl (lv_at hl 0 rfl) ?_
  refine lv_bipush (v := (16 : Int32)) hx hb dJ6_bitCount_0f7a4_43 (by decide) ?_
  refine lv_iushr hx hb dJ6_bitCount_0f7a4_45 rfl ?_
  refine lv_iadd hx hb dJ6_bitCount_0f7a4_46 ?_
  refine lv_topi (fun x5 ex5 => ?_)
  have hB := vl_at ex5 hB
  refine lv_istore_n (lv' := [(0, .int x5)]) hx hb dJ6_bitCount_0f7a4_47 rfl hl (by decide) rfl (fun ls hl => ?_)
  refine lv_iload_n hx hb dJ6_bitCount_0f7a4_48 rfl (lv_at hl 0 rfl) ?_
  refine lv_bipush (v := (63 : Int32)) hx hb dJ6_bitCount_0f7a4_49 (by decide) ?_
  refine lv_iand hx hb dJ6_bitCount_0f7a4_51 ?_
  subst hQ
  exact r_iret hx hb hr hK hS (pz hB) hlocks dJ6_bitCount_0f7a4_52
set_option maxHeartbeats 4000000 in
set_option maxRecDepth 100000 in
theorem c_X6_power (l : Launch) (dC : Nat → ClassId) (dI : Nat → Nat → Nat) (ad : Nat → Nat) (cA : Nat → ClassId) (σ : Sg) (a1 : Int32) (a2 : Int32) (z : Int64) (hB : f_X6_power a1 a2 = some z) : Kl l dC dI ad cA yX6_power wsX6_power 0 0 [.int a1, .int a2] σ (z, σ) := by
  refine mk_l (cc := cX6_power) (maxL := 5) (ret := (some .long)) (by decide) rfl (Nat.le_of_ble_eq_true rfl) ?_
  intro p e s m args below meth c Q H locs ls ⟨hx, hb, hr, hml, hown, hts, hlocks, hK, hN⟩ hQ hS hl
  have hown : s.vm.findClass RX6 = some m.cls := hown
  have hl : lv_has ls 5 [(0, .int a1), (1, .int a2)] := hl
  unfold f_X6_power at hB
  refine lv_lconst (v := (1 : Int64)) hx hb dX6_power_0 (by decide) ?_
  refine lv_lstore_n (lv' := [(2, .long (1 : Int64)), (0, .int a1), (1, .int a2)]) hx hb dX6_power_1 rfl hl (by decide) rfl (fun ls hl => ?_)
  refine lv_iconst (v := (0 : Int32)) hx hb dX6_power_2 (by decide) ?_
  refine lv_istore (lv' := [(4, .int (0 : Int32)), (2, .long (1 : Int64)), (0, .int a1), (1, .int a2)]) hx hb dX6_power_3 hl (by decide) rfl (fun ls hl => ?_)
  obtain ⟨t6, ht6, hB⟩ := bi_at hB
  refine wl_W (body := fun a => f_X6_power_B5 a1 a2 a.1 a.2) (Hd := fun a : Int64 × Int32 => ∀ (H : Heap) (locs : List Loc) (ls : Array Slot), ST dC dI ad cA s σ H locs → lv_has ls 5 [(0, .int a1), (1, .int a2), (2, .long a.1), (4, .int a.2)] → W p l e (RM 0 0) s m args below meth c H locs 0 0 Q (F0 m 5 ls [])) (Ex := fun b : Int64 => ∀ (H : Heap) (locs : List Loc) (ls : Array Slot), ST dC dI ad cA s σ H locs → lv_has ls 5 [(2, .long b)] → W p l e (RM 0 0) s m args below meth c H locs 0 0 Q (F0 m 22 ls [])) ?_ FU _ t6 ht6 ?_ H locs ls hS (lv_sub hl [2, 3, 1, 0] rfl)
  · intro a r5 hB hI5 hE5 H locs ls hS hl
    obtain ⟨x1, x2⟩ := a
    have hB : f_X6_power_B5 a1 a2 x1 x2 = some r5 := hB
    unfold f_X6_power_B5 at hB
    have hS : ST dC dI ad cA s σ H locs := hS
    have hl : lv_has ls 5 [(0, .int a1), (1, .int a2), (2, .long x1), (4, .int x2)] := hl
    show W p l e (RM 0 0) s m args below meth c H locs 0 0 Q (F0 m 5 ls [])
    refine lv_iload hx hb dX6_power_5 (lv_at hl 3 rfl) ?_
    refine lv_iload_n hx hb dX6_power_7 rfl (lv_at hl 1 rfl) ?_
    refine lv_icmp_ge (tgt := 22) hx hb dX6_power_8 (by decide) (fun c3 => ?_) (fun c3 => ?_)
    · have hB := it_t c3 hB
      exact hE5 _ (Option.some.inj hB).symm H locs ls hS (lv_sub hl [2] rfl)
    · have hB := it_f c3 hB
      refine lv_lload_n hx hb dX6_power_11 rfl (lv_at hl 2 rfl) ?_
      refine lv_iload_n hx hb dX6_power_12 rfl (lv_at hl 0 rfl) ?_
      refine lv_i2l hx hb dX6_power_13 rfl ?_
      refine lv_lmul hx hb dX6_power_14 ?_
      refine lv_topl (fun x4 ex4 => ?_)
      have hB := vl_at ex4 hB
      refine lv_lstore_n (lv' := [(2, .long x4), (0, .int a1), (1, .int a2), (4, .int x2)]) hx hb dX6_power_15 rfl hl (by decide) rfl (fun ls hl => ?_)
      obtain ⟨x5, ex5⟩ : ∃ y : Int32, y = x2 + (1 : Int32) := ⟨_, rfl⟩
      have hB := vl_at ex5 hB
      refine lv_iinc (v := x5) (lv' := [(4, .int x5), (2, .long x4), (0, .int a1), (1, .int a2)]) hx hb dX6_power_16 hl (k := 3) rfl (by rw [ex5]; rfl) (by decide) rfl (fun ls hl => ?_)
      refine lv_goto (tgt := 5) hx hb dX6_power_19 (by decide) ?_
      exact hI5 _ (Option.some.inj hB).symm H locs ls hS (lv_sub hl [2, 3, 1, 0] rfl)
  · skip
    intro H locs ls hS hl
    have hS : ST dC dI ad cA s σ H locs := hS
    have hl : lv_has ls 5 [(2, .long t6)] := hl
    show W p l e (RM 0 0) s m args below meth c H locs 0 0 Q (F0 m 22 ls [])
    refine lv_lload_n hx hb dX6_power_22 rfl (lv_at hl 0 rfl) ?_
    subst hQ
    exact r_lret hx hb hr hK hS (pz hB) hlocks dX6_power_23
set_option maxHeartbeats 4000000 in
set_option maxRecDepth 100000 in
theorem c_X6_odds (l : Launch) (dC : Nat → ClassId) (dI : Nat → Nat → Nat) (ad : Nat → Nat) (cA : Nat → ClassId) (σ : Sg) (a1 : Int32) (a2 : Int32) (z : Int64) (hB : f_X6_odds σ a1 a2 = some z) : Kl l dC dI ad cA yX6_odds wsX6_odds 3 77 [.ref (ad 0), .int a1, .int a2] σ (z, σ) := by
  refine mk_l (cc := cX6_odds) (maxL := 8) (ret := (some .long)) (by decide) rfl (Nat.le_of_ble_eq_true rfl) ?_
  intro p e s m args below meth c Q H locs ls ⟨hx, hb, hr, hml, hown, hts, hlocks, hK, hN⟩ hQ hS hl
  have hown : s.vm.findClass RX6 = some m.cls := hown
  have hl : lv_has ls 8 [(0, .ref (ad 0)), (1, .int a1), (2, .int a2)] := hl
  have hk_c143 := hts (.constantLong RX6 143 (-1)) (by decide +kernel)
  have hk_f19 := hts (.fieldLink RX6 19 "ChanceNets" "now" "LChanceNets$Net;") (by decide +kernel)
  have hin_X6 : ∀ w ∈ u_ws RX6 TX6 13, w ∈ wsX6_odds := by decide +kernel
  have hk_f130 := hts (.fieldLink RX6 130 "ChanceNets$Net" "lines" "I") (by decide +kernel)
  have hin_X1 : ∀ w ∈ u_ws RX1 TX1 5, w ∈ wsX6_odds := by decide +kernel
  unfold f_X6_odds at hB
  refine lv_iload_n hx hb dX6_odds_0 rfl (lv_at hl 1 rfl) ?_
  refine lv_if_lt (tgt := 17) hx hb dX6_odds_1 (by decide) (fun c1 => ?_) (fun c1 => ?_)
  · have hB := it_t c1 hB
    refine lv_ldc2 (v := (-1 : Int64)) hx hb hown hk_c143 dX6_odds_17 ?_
    subst hQ
    exact r_lret hx hb hr hK hS (pz hB) hlocks dX6_odds_20
  · have hB := it_f c1 hB
    refine lv_iload_n hx hb dX6_odds_4 rfl (lv_at hl 1 rfl) ?_
    refine lv_bipush (v := (10 : Int32)) hx hb dX6_odds_5 (by decide) ?_
    refine lv_icmp_gt (tgt := 17) hx hb dX6_odds_7 (by decide) (fun c2 => ?_) (fun c2 => ?_)
    · have hB := it_t c2 hB
      refine lv_ldc2 (v := (-1 : Int64)) hx hb hown hk_c143 dX6_odds_17 ?_
      subst hQ
      exact r_lret hx hb hr hK hS (pz hB) hlocks dX6_odds_20
    · have hB := it_f c2 hB
      refine lv_iload_n hx hb dX6_odds_10 rfl (lv_at hl 2 rfl) ?_
      obtain ⟨t3, ht3, hB⟩ := bi_at hB
      refine r_SiP ⟨hx, hb, hml, hown, hts⟩ (c_X6_isPart l dC dI ad cA σ a2 t3 ht3) (va_cwS 1 hts gX6_odds_X6_isPart rfl rfl rfl (by decide +kernel) ⟨Nat.le_of_ble_eq_true rfl, Nat.le_of_ble_eq_true rfl⟩) hK hN hS rfl hl.1 rfl (Nat.le_of_ble_eq_true rfl) dX6_odds_11 ⟨Nat.le_refl _, Nat.le_refl _⟩ (fun H locs hS => ?_)
      refine lv_if_ne (tgt := 21) hx hb dX6_odds_14 (by decide) (fun c4 => ?_) (fun c4 => ?_)
      · have hB := it_f c4 hB
        refine lv_aload_n hx hb dX6_odds_21 rfl (lv_at hl 0 rfl) ?_
        refine r_get (v := .ref (ad 3)) (C := RX6) (T := TX6) (N := 13) hx hb hts hin_X6 hown hK hS (by decide) e_0 rfl 1 (by decide) hk_f19 rfl rfl dX6_odds_22 ?_
        refine r_get (v := .int (gI σ 5)) (C := RX1) (T := TX1) (N := 5) hx hb hts hin_X1 hown hK hS (by decide) (e_net (k := 0) (by decide)) rfl 1 (by decide) hk_f130 rfl rfl dX6_odds_25 ?_
        refine lv_topi (fun x5 ex5 => ?_)
        have hB := vl_at ex5 hB
        refine lv_istore_n (lv' := [(3, .int x5), (0, .ref (ad 0)), (1, .int a1), (2, .int a2)]) hx hb dX6_odds_28 rfl hl (by decide) rfl (fun ls hl => ?_)
        refine lv_lconst (v := (0 : Int64)) hx hb dX6_odds_29 (by decide) ?_
        refine lv_lstore (lv' := [(4, .long (0 : Int64)), (3, .int x5), (0, .ref (ad 0)), (1, .int a1), (2, .int a2)]) hx hb dX6_odds_30 hl (by decide) rfl (fun ls hl => ?_)
        refine lv_iconst (v := (0 : Int32)) hx hb dX6_odds_32 (by decide) ?_
        refine lv_istore (lv' := [(6, .int (0 : Int32)), (4, .long (0 : Int64)), (3, .int x5), (0, .ref (ad 0)), (1, .int a1), (2, .int a2)]) hx hb dX6_odds_33 hl (by decide) rfl (fun ls hl => ?_)
        obtain ⟨t17, ht17, hB⟩ := bi_at hB
        refine wl_W (body := fun a => f_X6_odds_B35 σ a1 x5 a.1 a.2) (Hd := fun a : Int64 × Int32 => ∀ (H : Heap) (locs : List Loc) (ls : Array Slot), ST dC dI ad cA s σ H locs → lv_has ls 8 [(0, .ref (ad 0)), (1, .int a1), (2, .int a2), (3, .int x5), (4, .long a.1), (6, .int a.2)] → W p l e (RM 3 77) s m args below meth c H locs 0 0 Q (F0 m 35 ls [])) (Ex := fun b : Int64 => ∀ (H : Heap) (locs : List Loc) (ls : Array Slot), ST dC dI ad cA s σ H locs → lv_has ls 8 [(2, .int a2), (3, .int x5), (4, .long b)] → W p l e (RM 3 77) s m args below meth c H locs 0 0 Q (F0 m 91 ls [])) ?_ FU _ t17 ht17 ?_ H locs ls hS (lv_sub hl [3, 4, 5, 2, 1, 0] rfl)
        · intro a r35 hB hI35 hE35 H locs ls hS hl
          obtain ⟨x6, x7⟩ := a
          have hB : f_X6_odds_B35 σ a1 x5 x6 x7 = some r35 := hB
          unfold f_X6_odds_B35 at hB
          have hS : ST dC dI ad cA s σ H locs := hS
          have hl : lv_has ls 8 [(0, .ref (ad 0)), (1, .int a1), (2, .int a2), (3, .int x5), (4, .long x6), (6, .int x7)] := hl
          show W p l e (RM 3 77) s m args below meth c H locs 0 0 Q (F0 m 35 ls [])
          refine lv_iload hx hb dX6_odds_35 (lv_at hl 5 rfl) ?_
          refine lv_iconst (v := (1 : Int32)) hx hb dX6_odds_37 (by decide) ?_
          refine lv_iload_n hx hb dX6_odds_38 rfl (lv_at hl 3 rfl) ?_
          refine lv_ishl hx hb dX6_odds_39 ?_
          refine lv_icmp_ge (tgt := 91) hx hb dX6_odds_40 (by decide) (fun c8 => ?_) (fun c8 => ?_)
          · have hB := it_t c8 hB
            exact hE35 _ (Option.some.inj hB).symm H locs ls hS (lv_sub hl [2, 3, 4] rfl)
          · have hB := it_f c8 hB
            refine lv_aload_n hx hb dX6_odds_43 rfl (lv_at hl 0 rfl) ?_
            refine r_get (v := .ref (ad 3)) (C := RX6) (T := TX6) (N := 13) hx hb hts hin_X6 hown hK hS (by decide) e_0 rfl 1 (by decide) hk_f19 rfl rfl dX6_odds_44 ?_
            refine lv_iload hx hb dX6_odds_47 (lv_at hl 5 rfl) ?_
            obtain ⟨t9, ht9, hB⟩ := bi_at hB
            refine r_ViP ⟨hx, hb, hml, hown, hts⟩ (c_X1_hangsBy l dC dI ad cA σ 0 (by decide) x7 t9 ht9) (cwV 1 hts gX6_odds_X1_hangsBy rfl rfl rfl (by decide +kernel) ⟨Nat.le_of_ble_eq_true rfl, Nat.le_of_ble_eq_true rfl⟩) hK hN hS (by decide) (e_net (k := 0) (by decide)) rfl rfl hl.1 rfl (Nat.le_of_ble_eq_true rfl) dX6_odds_49 ⟨Nat.le_refl _, Nat.le_refl _⟩ (fun H locs hS => ?_)
            refine lv_if_eq (tgt := 85) hx hb dX6_odds_52 (by decide) (fun c10 => ?_) (fun c10 => ?_)
            · have hB := it_t c10 hB
              obtain ⟨x11, ex11⟩ : ∃ y : Int32, y = x7 + (1 : Int32) := ⟨_, rfl⟩
              have hB := vl_at ex11 hB
              refine lv_iinc (v := x11) (lv' := [(6, .int x11), (0, .ref (ad 0)), (1, .int a1), (2, .int a2), (3, .int x5), (4, .long x6)]) hx hb dX6_odds_85 hl (k := 5) rfl (by rw [ex11]; rfl) (by decide) rfl (fun ls hl => ?_)
              refine lv_goto (tgt := 35) hx hb dX6_odds_88 (by decide) ?_
              exact hI35 _ (Option.some.inj hB).symm H locs ls hS (lv_sub hl [1, 2, 3, 4, 5, 0] rfl)
            · have hB := it_f c10 hB
              refine lv_iload hx hb dX6_odds_55 (lv_at hl 5 rfl) ?_
              obtain ⟨t12, ht12, hB⟩ := bi_at hB
              refine r_SiP ⟨hx, hb, hml, hown, hts⟩ (c_J6_bitCount_0f7a4 l dC dI ad cA σ x7 t12 ht12) (va_cwS 1 hts gX6_odds_J6_bitCount_0f7a4 rfl rfl rfl (by decide +kernel) ⟨Nat.le_of_ble_eq_true rfl, Nat.le_of_ble_eq_true rfl⟩) hK hN hS rfl hl.1 rfl (Nat.le_of_ble_eq_true rfl) dX6_odds_57 ⟨Nat.le_refl _, Nat.le_refl _⟩ (fun H locs hS => ?_)
              refine lv_istore (lv' := [(7, .int t12), (0, .ref (ad 0)), (1, .int a1), (2, .int a2), (3, .int x5), (4, .long x6), (6, .int x7)]) hx hb dX6_odds_60 hl (by decide) rfl (fun ls hl => ?_)
              refine lv_lload hx hb dX6_odds_62 (lv_at hl 5 rfl) ?_
              refine lv_bipush (v := (10 : Int32)) hx hb dX6_odds_64 (by decide) ?_
              refine lv_iload_n hx hb dX6_odds_66 rfl (lv_at hl 2 rfl) ?_
              refine lv_isub hx hb dX6_odds_67 ?_
              refine lv_iload hx hb dX6_odds_68 (lv_at hl 0 rfl) ?_
              obtain ⟨t13, ht13, hB⟩ := bi_at hB
              refine r_SlP ⟨hx, hb, hml, hown, hts⟩ (c_X6_power l dC dI ad cA σ ((10 : Int32) - a1) t12 t13 ht13) (va_cwS 2 hts gX6_odds_X6_power rfl rfl rfl (by decide +kernel) ⟨Nat.le_of_ble_eq_true rfl, Nat.le_of_ble_eq_true rfl⟩) hK hN hS rfl hl.1 rfl (Nat.le_of_ble_eq_true rfl) dX6_odds_70 ⟨Nat.le_refl _, Nat.le_refl _⟩ (fun H locs hS => ?_)
              refine lv_iload_n hx hb dX6_odds_73 rfl (lv_at hl 2 rfl) ?_
              refine lv_iload_n hx hb dX6_odds_74 rfl (lv_at hl 4 rfl) ?_
              refine lv_iload hx hb dX6_odds_75 (lv_at hl 0 rfl) ?_
              refine lv_isub hx hb dX6_odds_77 ?_
              obtain ⟨t14, ht14, hB⟩ := bi_at hB
              refine r_SlP ⟨hx, hb, hml, hown, hts⟩ (c_X6_power l dC dI ad cA σ a1 (x5 - t12) t14 ht14) (va_cwS 2 hts gX6_odds_X6_power rfl rfl rfl (by decide +kernel) ⟨Nat.le_of_ble_eq_true rfl, Nat.le_of_ble_eq_true rfl⟩) hK hN hS rfl hl.1 rfl (Nat.le_of_ble_eq_true rfl) dX6_odds_78 ⟨Nat.le_refl _, Nat.le_refl _⟩ (fun H locs hS => ?_)
              refine lv_lmul hx hb dX6_odds_81 ?_
              refine lv_ladd hx hb dX6_odds_82 ?_
              refine lv_topl (fun x15 ex15 => ?_)
              have hB := vl_at ex15 hB
              refine lv_lstore (lv' := [(4, .long x15), (7, .int t12), (0, .ref (ad 0)), (1, .int a1), (2, .int a2), (3, .int x5), (6, .int x7)]) hx hb dX6_odds_83 hl (by decide) rfl (fun ls hl => ?_)
              obtain ⟨x16, ex16⟩ : ∃ y : Int32, y = x7 + (1 : Int32) := ⟨_, rfl⟩
              have hB := vl_at ex16 hB
              refine lv_iinc (v := x16) (lv' := [(6, .int x16), (4, .long x15), (7, .int t12), (0, .ref (ad 0)), (1, .int a1), (2, .int a2), (3, .int x5)]) hx hb dX6_odds_85 hl (k := 6) rfl (by rw [ex16]; rfl) (by decide) rfl (fun ls hl => ?_)
              refine lv_goto (tgt := 35) hx hb dX6_odds_88 (by decide) ?_
              exact hI35 _ (Option.some.inj hB).symm H locs ls hS (lv_sub hl [3, 4, 5, 6, 1, 0] rfl)
        · skip
          intro H locs ls hS hl
          have hS : ST dC dI ad cA s σ H locs := hS
          have hl : lv_has ls 8 [(2, .int a2), (3, .int x5), (4, .long t17)] := hl
          show W p l e (RM 3 77) s m args below meth c H locs 0 0 Q (F0 m 91 ls [])
          refine lv_lload hx hb dX6_odds_91 (lv_at hl 2 rfl) ?_
          refine lv_bipush (v := (10 : Int32)) hx hb dX6_odds_93 (by decide) ?_
          refine lv_iload_n hx hb dX6_odds_95 rfl (lv_at hl 1 rfl) ?_
          obtain ⟨t18, ht18, hB⟩ := bi_at hB
          refine r_SlP ⟨hx, hb, hml, hown, hts⟩ (c_X6_power l dC dI ad cA σ (10 : Int32) x5 t18 ht18) (va_cwS 2 hts gX6_odds_X6_power rfl rfl rfl (by decide +kernel) ⟨Nat.le_of_ble_eq_true rfl, Nat.le_of_ble_eq_true rfl⟩) hK hN hS rfl hl.1 rfl (Nat.le_of_ble_eq_true rfl) dX6_odds_96 ⟨Nat.le_refl _, Nat.le_refl _⟩ (fun H locs hS => ?_)
          refine lv_iload_n hx hb dX6_odds_99 rfl (lv_at hl 0 rfl) ?_
          obtain ⟨t19, ht19, hB⟩ := bi_at hB
          refine r_SlP ⟨hx, hb, hml, hown, hts⟩ (c_X6_partOf l dC dI ad cA σ t17 t18 a2 t19 ht19) (va_cwS 3 hts gX6_odds_X6_partOf rfl rfl rfl (by decide +kernel) ⟨Nat.le_of_ble_eq_true rfl, Nat.le_of_ble_eq_true rfl⟩) hK hN hS rfl hl.1 rfl (Nat.le_of_ble_eq_true rfl) dX6_odds_100 ⟨Nat.le_refl _, Nat.le_refl _⟩ (fun H locs hS => ?_)
          subst hQ
          exact r_lret hx hb hr hK hS (pz hB) hlocks dX6_odds_103
      · have hB := it_t c4 hB
        refine lv_ldc2 (v := (-1 : Int64)) hx hb hown hk_c143 dX6_odds_17 ?_
        subst hQ
        exact r_lret hx hb hr hK hS (pz hB) hlocks dX6_odds_20
set_option maxHeartbeats 4000000 in
set_option maxRecDepth 100000 in
theorem c_X6_sees (l : Launch) (dC : Nat → ClassId) (dI : Nat → Nat → Nat) (ad : Nat → Nat) (cA : Nat → ClassId) (σ : Sg) (a1 : Int64) (z : Int32 × Sg) (hB : f_X6_sees σ a1 = some z) : Ki l dC dI ad cA yX6_sees wsX6_sees 0 0 [.ref (ad 0), .long a1] σ z := by
  refine mk_i (cc := cX6_sees) (maxL := 3) (ret := (some .int)) (by decide) rfl (Nat.le_of_ble_eq_true rfl) ?_
  intro p e s m args below meth c Q H locs ls ⟨hx, hb, hr, hml, hown, hts, hlocks, hK, hN⟩ hQ hS hl
  have hown : s.vm.findClass RX6 = some m.cls := hown
  have hl : lv_has ls 3 [(0, .ref (ad 0)), (1, .long a1)] := hl
  have hk_f94 := hts (.fieldLink RX6 94 "ChanceNets" "seenCount" "I") (by decide +kernel)
  have hin_X6 : ∀ w ∈ u_ws RX6 TX6 13, w ∈ wsX6_sees := by decide +kernel
  have hk_f61 := hts (.fieldLink RX6 61 "ChanceNets" "seen" "[J") (by decide +kernel)
  unfold f_X6_sees at hB
  refine lv_lload_n hx hb dX6_sees_0 rfl (lv_at hl 1 rfl) ?_
  refine lv_lconst (v := (0 : Int64)) hx hb dX6_sees_1 (by decide) ?_
  refine W.lcmp hx hb dX6_sees_2 ?_
  refine lv_if_ge (tgt := 8) hx hb dX6_sees_3 (by decide) (fun c1 => ?_) (fun c1 => ?_)
  · have hB := it_t ((lg_cmp_ge _ _).mp c1) hB
    refine lv_aload_n hx hb dX6_sees_8 rfl (lv_at hl 0 rfl) ?_
    refine r_get (v := .int (gI σ 0)) (C := RX6) (T := TX6) (N := 13) hx hb hts hin_X6 hown hK hS (by decide) e_0 rfl 10 (by decide) hk_f94 rfl rfl dX6_sees_9 ?_
    refine lv_bipush (v := (6 : Int32)) hx hb dX6_sees_12 (by decide) ?_
    refine lv_icmp_lt (tgt := 20) hx hb dX6_sees_14 (by decide) (fun c2 => ?_) (fun c2 => ?_)
    · have hB := it_t c2 hB
      refine lv_aload_n hx hb dX6_sees_20 rfl (lv_at hl 0 rfl) ?_
      refine r_get (v := .ref (ad 42)) (C := RX6) (T := TX6) (N := 13) hx hb hts hin_X6 hown hK hS (by decide) e_0 rfl 9 (by decide) hk_f61 rfl rfl dX6_sees_21 ?_
      refine lv_aload_n hx hb dX6_sees_24 rfl (lv_at hl 0 rfl) ?_
      refine r_get (v := .int (gI σ 0)) (C := RX6) (T := TX6) (N := 13) hx hb hts hin_X6 hown hK hS (by decide) e_0 rfl 10 (by decide) hk_f94 rfl rfl dX6_sees_25 ?_
      refine lv_lload_n hx hb dX6_sees_28 rfl (lv_at hl 1 rfl) ?_
      obtain ⟨h3, hB⟩ := gd_at hB
      refine r_last hx hb hK hS h3 dX6_sees_29 (fun H locs hS => ?_)
      obtain ⟨σ4, eσ4⟩ : ∃ t : Sg, t = pJ σ 42 (gI σ 0).toNatClampNeg a1 := ⟨_, rfl⟩
      rw [← eσ4] at hS
      have hB := vl_at eσ4 hB
      refine lv_aload_n hx hb dX6_sees_30 rfl (lv_at hl 0 rfl) ?_
      refine lv_dup hx hb dX6_sees_31 rfl ?_
      refine r_get (v := .int (gI σ4 0)) (C := RX6) (T := TX6) (N := 13) hx hb hts hin_X6 hown hK hS (by decide) e_0 rfl 10 (by decide) hk_f94 rfl rfl dX6_sees_32 ?_
      refine lv_iconst (v := (1 : Int32)) hx hb dX6_sees_35 (by decide) ?_
      refine lv_iadd hx hb dX6_sees_36 ?_
      refine lv_topi (fun x5 ex5 => ?_)
      have hB := vl_at ex5 hB
      refine r_put (σ' := pI σ4 0 x5) (v := .int x5) (C := RX6) (T := TX6) (N := 13) hx hb hts hin_X6 tyX6 tyX6_ok nmX6 hown hK hS (by decide) e_0 rfl 10 (by decide) hk_f94 rfl rfl rfl rfl (Nat.le_of_ble_eq_true rfl) (fun d hd h => eo d hd h) rfl dX6_sees_37 (fun H locs hS => ?_)
      obtain ⟨σ6, eσ6⟩ : ∃ t : Sg, t = pI σ4 0 x5 := ⟨_, rfl⟩
      rw [← eσ6] at hS
      have hB := vl_at eσ6 hB
      refine lv_aload_n hx hb dX6_sees_40 rfl (lv_at hl 0 rfl) ?_
      refine r_get (v := .int (gI σ6 0)) (C := RX6) (T := TX6) (N := 13) hx hb hts hin_X6 hown hK hS (by decide) e_0 rfl 10 (by decide) hk_f94 rfl rfl dX6_sees_41 ?_
      subst hQ
      exact r_iret hx hb hr hK hS hB hlocks dX6_sees_44
    · have hB := it_f c2 hB
      refine lv_bipush (v := (-3 : Int32)) hx hb dX6_sees_17 (by decide) ?_
      subst hQ
      exact r_iret hx hb hr hK hS hB hlocks dX6_sees_19
  · have hB := it_f (fun q => c1 ((lg_cmp_ge _ _).mpr q)) hB
    refine lv_iconst (v := (-1 : Int32)) hx hb dX6_sees_6 (by decide) ?_
    subst hQ
    exact r_iret hx hb hr hK hS hB hlocks dX6_sees_7
set_option maxHeartbeats 4000000 in
set_option maxRecDepth 100000 in
theorem c_X6_forget (l : Launch) (dC : Nat → ClassId) (dI : Nat → Nat → Nat) (ad : Nat → Nat) (cA : Nat → ClassId) (σ : Sg)  (z : Int32 × Sg) (hB : f_X6_forget σ = some z) : Ki l dC dI ad cA yX6_forget wsX6_forget 0 0 [.ref (ad 0)] σ z := by
  refine mk_i (cc := cX6_forget) (maxL := 2) (ret := (some .int)) (by decide) rfl (Nat.le_of_ble_eq_true rfl) ?_
  intro p e s m args below meth c Q H locs ls ⟨hx, hb, hr, hml, hown, hts, hlocks, hK, hN⟩ hQ hS hl
  have hown : s.vm.findClass RX6 = some m.cls := hown
  have hl : lv_has ls 2 [(0, .ref (ad 0))] := hl
  have hk_f94 := hts (.fieldLink RX6 94 "ChanceNets" "seenCount" "I") (by decide +kernel)
  have hin_X6 : ∀ w ∈ u_ws RX6 TX6 13, w ∈ wsX6_forget := by decide +kernel
  unfold f_X6_forget at hB
  refine lv_aload_n hx hb dX6_forget_0 rfl (lv_at hl 0 rfl) ?_
  refine r_get (v := .int (gI σ 0)) (C := RX6) (T := TX6) (N := 13) hx hb hts hin_X6 hown hK hS (by decide) e_0 rfl 10 (by decide) hk_f94 rfl rfl dX6_forget_1 ?_
  refine lv_topi (fun x1 ex1 => ?_)
  have hB := vl_at ex1 hB
  refine lv_istore_n (lv' := [(1, .int x1), (0, .ref (ad 0))]) hx hb dX6_forget_4 rfl hl (by decide) rfl (fun ls hl => ?_)
  refine lv_aload_n hx hb dX6_forget_5 rfl (lv_at hl 1 rfl) ?_
  refine lv_iconst (v := (0 : Int32)) hx hb dX6_forget_6 (by decide) ?_
  refine r_put (σ' := pI σ 0 (0 : Int32)) (v := .int (0 : Int32)) (C := RX6) (T := TX6) (N := 13) hx hb hts hin_X6 tyX6 tyX6_ok nmX6 hown hK hS (by decide) e_0 rfl 10 (by decide) hk_f94 rfl rfl rfl rfl (Nat.le_of_ble_eq_true rfl) (fun d hd h => eo d hd h) rfl dX6_forget_7 (fun H locs hS => ?_)
  obtain ⟨σ2, eσ2⟩ : ∃ t : Sg, t = pI σ 0 (0 : Int32) := ⟨_, rfl⟩
  rw [← eσ2] at hS
  have hB := vl_at eσ2 hB
  refine lv_iload_n hx hb dX6_forget_10 rfl (lv_at hl 0 rfl) ?_
  subst hQ
  exact r_iret hx hb hr hK hS hB hlocks dX6_forget_11
set_option maxHeartbeats 4000000 in
set_option maxRecDepth 100000 in
theorem c_X6_allSeenAre (l : Launch) (dC : Nat → ClassId) (dI : Nat → Nat → Nat) (ad : Nat → Nat) (cA : Nat → ClassId) (σ : Sg) (a1 : Int64) (z : Int32) (hB : f_X6_allSeenAre σ a1 = some z) : Ki l dC dI ad cA yX6_allSeenAre wsX6_allSeenAre 0 0 [.ref (ad 0), .long a1] σ (z, σ) := by
  refine mk_i (cc := cX6_allSeenAre) (maxL := 4) (ret := (some .boolean)) (by decide) rfl (Nat.le_of_ble_eq_true rfl) ?_
  intro p e s m args below meth c Q H locs ls ⟨hx, hb, hr, hml, hown, hts, hlocks, hK, hN⟩ hQ hS hl
  have hown : s.vm.findClass RX6 = some m.cls := hown
  have hl : lv_has ls 4 [(0, .ref (ad 0)), (1, .long a1)] := hl
  have hk_f94 := hts (.fieldLink RX6 94 "ChanceNets" "seenCount" "I") (by decide +kernel)
  have hin_X6 : ∀ w ∈ u_ws RX6 TX6 13, w ∈ wsX6_allSeenAre := by decide +kernel
  have hk_f61 := hts (.fieldLink RX6 61 "ChanceNets" "seen" "[J") (by decide +kernel)
  unfold f_X6_allSeenAre at hB
  refine lv_iconst (v := (0 : Int32)) hx hb dX6_allSeenAre_0 (by decide) ?_
  refine lv_istore_n (lv' := [(3, .int (0 : Int32)), (0, .ref (ad 0)), (1, .long a1)]) hx hb dX6_allSeenAre_1 rfl hl (by decide) rfl (fun ls hl => ?_)
  obtain ⟨t6, ht6, hB⟩ := bi_at hB
  refine wl_W (body := fun a => f_X6_allSeenAre_B2 σ a1 a) (Hd := fun a : Int32 => ∀ (H : Heap) (locs : List Loc) (ls : Array Slot), ST dC dI ad cA s σ H locs → lv_has ls 4 [(0, .ref (ad 0)), (1, .long a1), (3, .int a)] → W p l e (RM 0 0) s m args below meth c H locs 0 0 Q (F0 m 2 ls [])) (Ex := fun b : (Unit) ⊕ (Int32) => Sum.elim (fun b : Unit => ∀ (H : Heap) (locs : List Loc) (ls : Array Slot), ST dC dI ad cA s σ H locs → lv_has ls 4 [] → W p l e (RM 0 0) s m args below meth c H locs 0 0 Q (F0 m 29 ls [])) (fun v => some v = some z) b) ?_ FU _ t6 ht6 ?_ H locs ls hS (lv_sub hl [1, 2, 0] rfl)
  · intro a r2 hB hI2 hE2 H locs ls hS hl
    obtain ⟨x1, rfl⟩ : ∃ y, y = a := ⟨_, rfl⟩
    have hB : f_X6_allSeenAre_B2 σ a1 x1 = some r2 := hB
    unfold f_X6_allSeenAre_B2 at hB
    have hS : ST dC dI ad cA s σ H locs := hS
    have hl : lv_has ls 4 [(0, .ref (ad 0)), (1, .long a1), (3, .int x1)] := hl
    show W p l e (RM 0 0) s m args below meth c H locs 0 0 Q (F0 m 2 ls [])
    refine lv_iload_n hx hb dX6_allSeenAre_2 rfl (lv_at hl 2 rfl) ?_
    refine lv_aload_n hx hb dX6_allSeenAre_3 rfl (lv_at hl 0 rfl) ?_
    refine r_get (v := .int (gI σ 0)) (C := RX6) (T := TX6) (N := 13) hx hb hts hin_X6 hown hK hS (by decide) e_0 rfl 10 (by decide) hk_f94 rfl rfl dX6_allSeenAre_4 ?_
    refine lv_icmp_ge (tgt := 29) hx hb dX6_allSeenAre_7 (by decide) (fun c2 => ?_) (fun c2 => ?_)
    · have hB := it_t c2 hB
      exact hE2 _ (Option.some.inj hB).symm H locs ls hS (lv_sub hl [] rfl)
    · have hB := it_f c2 hB
      refine lv_aload_n hx hb dX6_allSeenAre_10 rfl (lv_at hl 0 rfl) ?_
      refine r_get (v := .ref (ad 42)) (C := RX6) (T := TX6) (N := 13) hx hb hts hin_X6 hown hK hS (by decide) e_0 rfl 9 (by decide) hk_f61 rfl rfl dX6_allSeenAre_11 ?_
      refine lv_iload_n hx hb dX6_allSeenAre_14 rfl (lv_at hl 2 rfl) ?_
      obtain ⟨h3, hB⟩ := gd_at hB
      refine r_lald hx hb hK hS h3 dX6_allSeenAre_15 ?_
      refine lv_lload_n hx hb dX6_allSeenAre_16 rfl (lv_at hl 1 rfl) ?_
      refine W.lcmp hx hb dX6_allSeenAre_17 ?_
      refine lv_if_eq (tgt := 23) hx hb dX6_allSeenAre_18 (by decide) (fun c4 => ?_) (fun c4 => ?_)
      · have hB := it_t ((lg_cmp_eq _ _).mp c4) hB
        obtain ⟨x5, ex5⟩ : ∃ y : Int32, y = x1 + (1 : Int32) := ⟨_, rfl⟩
        have hB := vl_at ex5 hB
        refine lv_iinc (v := x5) (lv' := [(3, .int x5), (0, .ref (ad 0)), (1, .long a1)]) hx hb dX6_allSeenAre_23 hl (k := 2) rfl (by rw [ex5]; rfl) (by decide) rfl (fun ls hl => ?_)
        refine lv_goto (tgt := 2) hx hb dX6_allSeenAre_26 (by decide) ?_
        exact hI2 _ (Option.some.inj hB).symm H locs ls hS (lv_sub hl [1, 2, 0] rfl)
      · have hB := it_f (fun q => c4 ((lg_cmp_eq _ _).mpr q)) hB
        refine lv_iconst (v := (0 : Int32)) hx hb dX6_allSeenAre_21 (by decide) ?_
        subst hQ
        exact r_zret hx hb hr hK hS rfl (pz (hE2 _ (Option.some.inj hB).symm)) hlocks dX6_allSeenAre_22
  · rcases t6 with t6 | v
    · rw [Sum.elim_inl] at hB
      intro H locs ls hS hl
      have hS : ST dC dI ad cA s σ H locs := hS
      have hl : lv_has ls 4 [] := hl
      show W p l e (RM 0 0) s m args below meth c H locs 0 0 Q (F0 m 29 ls [])
      refine lv_iconst (v := (1 : Int32)) hx hb dX6_allSeenAre_29 (by decide) ?_
      subst hQ
      exact r_zret hx hb hr hK hS rfl (pz hB) hlocks dX6_allSeenAre_30
    · exact hB
set_option maxHeartbeats 4000000 in
set_option maxRecDepth 100000 in
theorem c_X6_unseen (l : Launch) (dC : Nat → ClassId) (dI : Nat → Nat → Nat) (ad : Nat → Nat) (cA : Nat → ClassId) (σ : Sg)  (z : Int32 × Sg) (hB : f_X6_unseen σ = some z) : Ki l dC dI ad cA yX6_unseen wsX6_unseen 6 132 [.ref (ad 0)] σ z := by
  refine mk_i (cc := cX6_unseen) (maxL := 3) (ret := (some .int)) (by decide) rfl (Nat.le_of_ble_eq_true rfl) ?_
  intro p e s m args below meth c Q H locs ls ⟨hx, hb, hr, hml, hown, hts, hlocks, hK, hN⟩ hQ hS hl
  have hown : s.vm.findClass RX6 = some m.cls := hown
  have hl : lv_has ls 3 [(0, .ref (ad 0))] := hl
  have hk_f19 := hts (.fieldLink RX6 19 "ChanceNets" "now" "LChanceNets$Net;") (by decide +kernel)
  have hin_X6 : ∀ w ∈ u_ws RX6 TX6 13, w ∈ wsX6_unseen := by decide +kernel
  have hk_f130 := hts (.fieldLink RX6 130 "ChanceNets$Net" "lines" "I") (by decide +kernel)
  have hin_X1 : ∀ w ∈ u_ws RX1 TX1 5, w ∈ wsX6_unseen := by decide +kernel
  have hk_f29 := hts (.fieldLink RX6 29 "ChanceNets" "rests" "[J") (by decide +kernel)
  unfold f_X6_unseen at hB
  refine lv_aload_n hx hb dX6_unseen_0 rfl (lv_at hl 0 rfl) ?_
  obtain ⟨t1, ht1, hB⟩ := bi_at hB
  refine r_Vv ⟨hx, hb, hml, hown, hts⟩ (c_X6_countRests l dC dI ad cA σ t1 ht1) (cwV 0 hts gX6_unseen_X6_countRests rfl rfl rfl (by decide +kernel) ⟨Nat.le_of_ble_eq_true rfl, Nat.le_of_ble_eq_true rfl⟩) hK hN hS (by decide) e_0 rfl rfl hl.1 rfl (Nat.le_of_ble_eq_true rfl) dX6_unseen_1 ⟨Nat.le_refl _, Nat.le_refl _⟩ (fun H locs hS => ?_)
  refine lv_iconst (v := (0 : Int32)) hx hb dX6_unseen_4 (by decide) ?_
  refine lv_istore_n (lv' := [(1, .int (0 : Int32)), (0, .ref (ad 0))]) hx hb dX6_unseen_5 rfl hl (by decide) rfl (fun ls hl => ?_)
  refine lv_iconst (v := (0 : Int32)) hx hb dX6_unseen_6 (by decide) ?_
  refine lv_istore_n (lv' := [(2, .int (0 : Int32)), (1, .int (0 : Int32)), (0, .ref (ad 0))]) hx hb dX6_unseen_7 rfl hl (by decide) rfl (fun ls hl => ?_)
  obtain ⟨t11, ht11, hB⟩ := bi_at hB
  refine wl_W (body := fun a => f_X6_unseen_B8 t1 a.1 a.2) (Hd := fun a : Int32 × Int32 => ∀ (H : Heap) (locs : List Loc) (ls : Array Slot), ST dC dI ad cA s t1 H locs → lv_has ls 3 [(0, .ref (ad 0)), (1, .int a.1), (2, .int a.2)] → W p l e (RM 6 132) s m args below meth c H locs 0 0 Q (F0 m 8 ls [])) (Ex := fun b : Int32 => ∀ (H : Heap) (locs : List Loc) (ls : Array Slot), ST dC dI ad cA s t1 H locs → lv_has ls 3 [(1, .int b)] → W p l e (RM 6 132) s m args below meth c H locs 0 0 Q (F0 m 44 ls [])) ?_ FU _ t11 ht11 ?_ H locs ls hS (lv_sub hl [2, 1, 0] rfl)
  · intro a r8 hB hI8 hE8 H locs ls hS hl
    obtain ⟨x2, x3⟩ := a
    have hB : f_X6_unseen_B8 t1 x2 x3 = some r8 := hB
    unfold f_X6_unseen_B8 at hB
    have hS : ST dC dI ad cA s t1 H locs := hS
    have hl : lv_has ls 3 [(0, .ref (ad 0)), (1, .int x2), (2, .int x3)] := hl
    show W p l e (RM 6 132) s m args below meth c H locs 0 0 Q (F0 m 8 ls [])
    refine lv_iload_n hx hb dX6_unseen_8 rfl (lv_at hl 2 rfl) ?_
    refine lv_aload_n hx hb dX6_unseen_9 rfl (lv_at hl 0 rfl) ?_
    refine r_get (v := .ref (ad 3)) (C := RX6) (T := TX6) (N := 13) hx hb hts hin_X6 hown hK hS (by decide) e_0 rfl 1 (by decide) hk_f19 rfl rfl dX6_unseen_10 ?_
    refine r_get (v := .int (gI t1 5)) (C := RX1) (T := TX1) (N := 5) hx hb hts hin_X1 hown hK hS (by decide) (e_net (k := 0) (by decide)) rfl 1 (by decide) hk_f130 rfl rfl dX6_unseen_13 ?_
    refine lv_icmp_ge (tgt := 44) hx hb dX6_unseen_16 (by decide) (fun c4 => ?_) (fun c4 => ?_)
    · have hB := it_t c4 hB
      exact hE8 _ (Option.some.inj hB).symm H locs ls hS (lv_sub hl [1] rfl)
    · have hB := it_f c4 hB
      refine lv_aload_n hx hb dX6_unseen_19 rfl (lv_at hl 0 rfl) ?_
      refine lv_aload_n hx hb dX6_unseen_20 rfl (lv_at hl 0 rfl) ?_
      refine r_get (v := .ref (ad 23)) (C := RX6) (T := TX6) (N := 13) hx hb hts hin_X6 hown hK hS (by decide) e_0 rfl 4 (by decide) hk_f29 rfl rfl dX6_unseen_21 ?_
      refine lv_iload_n hx hb dX6_unseen_24 rfl (lv_at hl 2 rfl) ?_
      obtain ⟨h5, hB⟩ := gd_at hB
      refine r_lald hx hb hK hS h5 dX6_unseen_25 ?_
      obtain ⟨t6, ht6, hB⟩ := bi_at hB
      refine r_ViP ⟨hx, hb, hml, hown, hts⟩ (c_X6_allSeenAre l dC dI ad cA t1 (gJ t1 23 x3.toNatClampNeg) t6 ht6) (cwV 1 hts gX6_unseen_X6_allSeenAre rfl rfl rfl (by decide +kernel) ⟨Nat.le_of_ble_eq_true rfl, Nat.le_of_ble_eq_true rfl⟩) hK hN hS (by decide) e_0 rfl rfl hl.1 rfl (Nat.le_of_ble_eq_true rfl) dX6_unseen_26 ⟨Nat.le_refl _, Nat.le_refl _⟩ (fun H locs hS => ?_)
      refine lv_if_eq (tgt := 38) hx hb dX6_unseen_29 (by decide) (fun c7 => ?_) (fun c7 => ?_)
      · have hB := it_t c7 hB
        obtain ⟨x8, ex8⟩ : ∃ y : Int32, y = x3 + (1 : Int32) := ⟨_, rfl⟩
        have hB := vl_at ex8 hB
        refine lv_iinc (v := x8) (lv' := [(2, .int x8), (0, .ref (ad 0)), (1, .int x2)]) hx hb dX6_unseen_38 hl (k := 2) rfl (by rw [ex8]; rfl) (by decide) rfl (fun ls hl => ?_)
        refine lv_goto (tgt := 8) hx hb dX6_unseen_41 (by decide) ?_
        exact hI8 _ (Option.some.inj hB).symm H locs ls hS (lv_sub hl [1, 2, 0] rfl)
      · have hB := it_f c7 hB
        refine lv_iload_n hx hb dX6_unseen_32 rfl (lv_at hl 1 rfl) ?_
        refine lv_iconst (v := (1 : Int32)) hx hb dX6_unseen_33 (by decide) ?_
        refine lv_iload_n hx hb dX6_unseen_34 rfl (lv_at hl 2 rfl) ?_
        refine lv_ishl hx hb dX6_unseen_35 ?_
        refine lv_ior hx hb dX6_unseen_36 ?_
        refine lv_topi (fun x9 ex9 => ?_)
        have hB := vl_at ex9 hB
        refine lv_istore_n (lv' := [(1, .int x9), (0, .ref (ad 0)), (2, .int x3)]) hx hb dX6_unseen_37 rfl hl (by decide) rfl (fun ls hl => ?_)
        obtain ⟨x10, ex10⟩ : ∃ y : Int32, y = x3 + (1 : Int32) := ⟨_, rfl⟩
        have hB := vl_at ex10 hB
        refine lv_iinc (v := x10) (lv' := [(2, .int x10), (1, .int x9), (0, .ref (ad 0))]) hx hb dX6_unseen_38 hl (k := 2) rfl (by rw [ex10]; rfl) (by decide) rfl (fun ls hl => ?_)
        refine lv_goto (tgt := 8) hx hb dX6_unseen_41 (by decide) ?_
        exact hI8 _ (Option.some.inj hB).symm H locs ls hS (lv_sub hl [2, 1, 0] rfl)
  · skip
    intro H locs ls hS hl
    have hS : ST dC dI ad cA s t1 H locs := hS
    have hl : lv_has ls 3 [(1, .int t11)] := hl
    show W p l e (RM 6 132) s m args below meth c H locs 0 0 Q (F0 m 44 ls [])
    refine lv_iload_n hx hb dX6_unseen_44 rfl (lv_at hl 0 rfl) ?_
    subst hQ
    exact r_iret hx hb hr hK hS hB hlocks dX6_unseen_45
set_option maxHeartbeats 4000000 in
set_option maxRecDepth 100000 in
theorem c_X6_isImage (l : Launch) (dC : Nat → ClassId) (dI : Nat → Nat → Nat) (ad : Nat → Nat) (cA : Nat → ClassId) (σ : Sg) (a1 : Int32) (z : Int32) (hB : f_X6_isImage a1 = some z) : Ki l dC dI ad cA yX6_isImage wsX6_isImage 0 0 [.int a1] σ (z, σ) := by
  refine mk_i (cc := cX6_isImage) (maxL := 1) (ret := (some .boolean)) (by decide) rfl (Nat.le_of_ble_eq_true rfl) ?_
  intro p e s m args below meth c Q H locs ls ⟨hx, hb, hr, hml, hown, hts, hlocks, hK, hN⟩ hQ hS hl
  have hown : s.vm.findClass RX6 = some m.cls := hown
  have hl : lv_has ls 1 [(0, .int a1)] := hl
  unfold f_X6_isImage at hB
  refine lv_iload_n hx hb dX6_isImage_0 rfl (lv_at hl 0 rfl) ?_
  refine lv_if_lt (tgt := 13) hx hb dX6_isImage_1 (by decide) (fun c1 => ?_) (fun c1 => ?_)
  · have hB := it_t c1 hB
    refine lv_iconst (v := (0 : Int32)) hx hb dX6_isImage_13 (by decide) ?_
    subst hQ
    exact r_zret hx hb hr hK hS rfl (pz hB) hlocks dX6_isImage_14
  · have hB := it_f c1 hB
    refine lv_iload_n hx hb dX6_isImage_4 rfl (lv_at hl 0 rfl) ?_
    refine lv_iconst (v := (2 : Int32)) hx hb dX6_isImage_5 (by decide) ?_
    refine lv_icmp_ge (tgt := 13) hx hb dX6_isImage_6 (by decide) (fun c2 => ?_) (fun c2 => ?_)
    · have hB := it_t c2 hB
      refine lv_iconst (v := (0 : Int32)) hx hb dX6_isImage_13 (by decide) ?_
      subst hQ
      exact r_zret hx hb hr hK hS rfl (pz hB) hlocks dX6_isImage_14
    · have hB := it_f c2 hB
      refine lv_iconst (v := (1 : Int32)) hx hb dX6_isImage_9 (by decide) ?_
      refine lv_goto (tgt := 14) hx hb dX6_isImage_10 (by decide) ?_
      subst hQ
      exact r_zret hx hb hr hK hS rfl (pz hB) hlocks dX6_isImage_14
