set_option maxHeartbeats 4000000 in
set_option maxRecDepth 100000 in
theorem c_X2_takesBack (l : Launch) (dC : Nat → ClassId) (dI : Nat → Nat → Nat) (ad : Nat → Nat) (cA : Nat → ClassId) (σ : Sg) (kn : Nat) (hkn : kn < 5) (z : Int32 × Sg) (hB : f_X2_takesBack σ kn = some z) : Ki l dC dI ad cA yX2_takesBack wsX2_takesBack 2 45 [.ref (ad 24), .ref (ad (3 + 4 * kn))] σ z := by
  refine mk_i (cc := cX2_takesBack) (maxL := 2) (ret := (some .boolean)) (by decide) rfl (Nat.le_of_ble_eq_true rfl) ?_
  intro p e s m args below meth c Q H locs ls ⟨hx, hb, hr, hml, hown, hts, hlocks, hK, hN⟩ hQ hS hl
  have hown : s.vm.findClass RX2 = some m.cls := hown
  have hl : lv_has ls 2 [(0, .ref (ad 24)), (1, .ref (ad (3 + 4 * kn)))] := hl
  have hk_f21 := hts (.fieldLink RX2 21 "ChanceNets$Past" "known" "I") (by decide +kernel)
  have hin_X2 : ∀ w ∈ u_ws RX2 TX2 4, w ∈ wsX2_takesBack := by decide +kernel
  have hk_f9 := hts (.fieldLink RX2 9 "ChanceNets$Past" "lows" "[I") (by decide +kernel)
  have hk_f15 := hts (.fieldLink RX2 15 "ChanceNets$Past" "highs" "[I") (by decide +kernel)
  have hk_f18 := hts (.fieldLink RX2 18 "ChanceNets$Past" "widths" "[I") (by decide +kernel)
  unfold f_X2_takesBack at hB
  refine lv_aload_n hx hb dX2_takesBack_0 rfl (lv_at hl 0 rfl) ?_
  refine r_get (v := .int (gI σ 14)) (C := RX2) (T := TX2) (N := 4) hx hb hts hin_X2 hown hK hS (by decide) e_24 rfl 3 (by decide) hk_f21 rfl rfl dX2_takesBack_1 ?_
  refine lv_if_gt (tgt := 9) hx hb dX2_takesBack_4 (by decide) (fun c1 => ?_) (fun c1 => ?_)
  · have hB := it_t c1 hB
    refine lv_aload_n hx hb dX2_takesBack_9 rfl (lv_at hl 0 rfl) ?_
    refine lv_dup hx hb dX2_takesBack_10 rfl ?_
    refine r_get (v := .int (gI σ 14)) (C := RX2) (T := TX2) (N := 4) hx hb hts hin_X2 hown hK hS (by decide) e_24 rfl 3 (by decide) hk_f21 rfl rfl dX2_takesBack_11 ?_
    refine lv_iconst (v := (1 : Int32)) hx hb dX2_takesBack_14 (by decide) ?_
    refine lv_isub hx hb dX2_takesBack_15 ?_
    refine lv_topi (fun x2 ex2 => ?_)
    have hB := vl_at ex2 hB
    refine r_put (σ' := pI σ 14 x2) (v := .int x2) (C := RX2) (T := TX2) (N := 4) hx hb hts hin_X2 tyX2 tyX2_ok nmX2 hown hK hS (by decide) e_24 rfl 3 (by decide) hk_f21 rfl rfl rfl rfl (Nat.le_of_ble_eq_true rfl) (fun d hd h => eo d hd h) rfl dX2_takesBack_16 (fun H locs hS => ?_)
    obtain ⟨σ3, eσ3⟩ : ∃ t : Sg, t = pI σ 14 x2 := ⟨_, rfl⟩
    rw [← eσ3] at hS
    have hB := vl_at eσ3 hB
    refine lv_aload_n hx hb dX2_takesBack_19 rfl (lv_at hl 1 rfl) ?_
    refine lv_aload_n hx hb dX2_takesBack_20 rfl (lv_at hl 0 rfl) ?_
    refine r_get (v := .ref (ad 25)) (C := RX2) (T := TX2) (N := 4) hx hb hts hin_X2 hown hK hS (by decide) e_24 rfl 0 (by decide) hk_f9 rfl rfl dX2_takesBack_21 ?_
    refine lv_aload_n hx hb dX2_takesBack_24 rfl (lv_at hl 0 rfl) ?_
    refine r_get (v := .int (gI σ3 14)) (C := RX2) (T := TX2) (N := 4) hx hb hts hin_X2 hown hK hS (by decide) e_24 rfl 3 (by decide) hk_f21 rfl rfl dX2_takesBack_25 ?_
    obtain ⟨h4, hB⟩ := gd_at hB
    refine r_iald hx hb hK hS h4 dX2_takesBack_28 ?_
    refine lv_aload_n hx hb dX2_takesBack_29 rfl (lv_at hl 0 rfl) ?_
    refine r_get (v := .ref (ad 26)) (C := RX2) (T := TX2) (N := 4) hx hb hts hin_X2 hown hK hS (by decide) e_24 rfl 1 (by decide) hk_f15 rfl rfl dX2_takesBack_30 ?_
    refine lv_aload_n hx hb dX2_takesBack_33 rfl (lv_at hl 0 rfl) ?_
    refine r_get (v := .int (gI σ3 14)) (C := RX2) (T := TX2) (N := 4) hx hb hts hin_X2 hown hK hS (by decide) e_24 rfl 3 (by decide) hk_f21 rfl rfl dX2_takesBack_34 ?_
    obtain ⟨h5, hB⟩ := gd_at hB
    refine r_iald hx hb hK hS h5 dX2_takesBack_37 ?_
    refine lv_aload_n hx hb dX2_takesBack_38 rfl (lv_at hl 0 rfl) ?_
    refine r_get (v := .ref (ad 27)) (C := RX2) (T := TX2) (N := 4) hx hb hts hin_X2 hown hK hS (by decide) e_24 rfl 2 (by decide) hk_f18 rfl rfl dX2_takesBack_39 ?_
    refine lv_aload_n hx hb dX2_takesBack_42 rfl (lv_at hl 0 rfl) ?_
    refine r_get (v := .int (gI σ3 14)) (C := RX2) (T := TX2) (N := 4) hx hb hts hin_X2 hown hK hS (by decide) e_24 rfl 3 (by decide) hk_f21 rfl rfl dX2_takesBack_43 ?_
    obtain ⟨h6, hB⟩ := gd_at hB
    refine r_iald hx hb hK hS h6 dX2_takesBack_46 ?_
    obtain ⟨t7, ht7, hB⟩ := bi_at hB
    refine r_Vv ⟨hx, hb, hml, hown, hts⟩ (c_X1_put l dC dI ad cA σ3 kn hkn (gA σ3 25 (gI σ3 14).toNatClampNeg) (gA σ3 26 (gI σ3 14).toNatClampNeg) (gA σ3 27 (gI σ3 14).toNatClampNeg) t7 ht7) (cwV 3 hts gX2_takesBack_X1_put rfl rfl rfl (by decide +kernel) ⟨Nat.le_of_ble_eq_true rfl, Nat.le_of_ble_eq_true rfl⟩) hK hN hS (by omega) (e_net (k := kn) hkn) rfl rfl hl.1 rfl (Nat.le_of_ble_eq_true rfl) dX2_takesBack_47 ⟨Nat.le_refl _, Nat.le_refl _⟩ (fun H locs hS => ?_)
    refine lv_iconst (v := (1 : Int32)) hx hb dX2_takesBack_50 (by decide) ?_
    subst hQ
    exact r_zret hx hb hr hK hS rfl hB hlocks dX2_takesBack_51
  · have hB := it_f c1 hB
    refine lv_iconst (v := (0 : Int32)) hx hb dX2_takesBack_7 (by decide) ?_
    subst hQ
    exact r_zret hx hb hr hK hS rfl hB hlocks dX2_takesBack_8
set_option maxHeartbeats 4000000 in
set_option maxRecDepth 100000 in
theorem c_X6_undo (l : Launch) (dC : Nat → ClassId) (dI : Nat → Nat → Nat) (ad : Nat → Nat) (cA : Nat → ClassId) (σ : Sg)  (z : Int32 × Sg) (hB : f_X6_undo σ = some z) : Ki l dC dI ad cA yX6_undo wsX6_undo 3 66 [.ref (ad 0)] σ z := by
  refine mk_i (cc := cX6_undo) (maxL := 1) (ret := (some .int)) (by decide) rfl (Nat.le_of_ble_eq_true rfl) ?_
  intro p e s m args below meth c Q H locs ls ⟨hx, hb, hr, hml, hown, hts, hlocks, hK, hN⟩ hQ hS hl
  have hown : s.vm.findClass RX6 = some m.cls := hown
  have hl : lv_has ls 1 [(0, .ref (ad 0))] := hl
  have hk_f36 := hts (.fieldLink RX6 36 "ChanceNets" "past" "LChanceNets$Past;") (by decide +kernel)
  have hin_X6 : ∀ w ∈ u_ws RX6 TX6 13, w ∈ wsX6_undo := by decide +kernel
  have hk_f19 := hts (.fieldLink RX6 19 "ChanceNets" "now" "LChanceNets$Net;") (by decide +kernel)
  have hk_f91 := hts (.fieldLink RX6 91 "ChanceNets$Past" "known" "I") (by decide +kernel)
  have hin_X2 : ∀ w ∈ u_ws RX2 TX2 4, w ∈ wsX6_undo := by decide +kernel
  unfold f_X6_undo at hB
  refine lv_aload_n hx hb dX6_undo_0 rfl (lv_at hl 0 rfl) ?_
  refine r_get (v := .ref (ad 24)) (C := RX6) (T := TX6) (N := 13) hx hb hts hin_X6 hown hK hS (by decide) e_0 rfl 5 (by decide) hk_f36 rfl rfl dX6_undo_1 ?_
  refine lv_aload_n hx hb dX6_undo_4 rfl (lv_at hl 0 rfl) ?_
  refine r_get (v := .ref (ad 3)) (C := RX6) (T := TX6) (N := 13) hx hb hts hin_X6 hown hK hS (by decide) e_0 rfl 1 (by decide) hk_f19 rfl rfl dX6_undo_5 ?_
  obtain ⟨t1, ht1, hB⟩ := bi_at hB
  refine r_Vi ⟨hx, hb, hml, hown, hts⟩ (c_X2_takesBack l dC dI ad cA σ 0 (by decide) t1 ht1) (cwV 1 hts gX6_undo_X2_takesBack rfl rfl rfl (by decide +kernel) ⟨Nat.le_of_ble_eq_true rfl, Nat.le_of_ble_eq_true rfl⟩) hK hN hS (by decide) e_24 rfl rfl hl.1 rfl (Nat.le_of_ble_eq_true rfl) dX6_undo_8 ⟨Nat.le_refl _, Nat.le_refl _⟩ (fun H locs hS => ?_)
  refine lv_if_eq (tgt := 24) hx hb dX6_undo_11 (by decide) (fun c2 => ?_) (fun c2 => ?_)
  · have hB := it_t c2 hB
    refine lv_bipush (v := (-2 : Int32)) hx hb dX6_undo_24 (by decide) ?_
    subst hQ
    exact r_iret hx hb hr hK hS hB hlocks dX6_undo_26
  · have hB := it_f c2 hB
    refine lv_aload_n hx hb dX6_undo_14 rfl (lv_at hl 0 rfl) ?_
    refine r_get (v := .ref (ad 24)) (C := RX6) (T := TX6) (N := 13) hx hb hts hin_X6 hown hK hS (by decide) e_0 rfl 5 (by decide) hk_f36 rfl rfl dX6_undo_15 ?_
    refine r_get (v := .int (gI t1.2 14)) (C := RX2) (T := TX2) (N := 4) hx hb hts hin_X2 hown hK hS (by decide) e_24 rfl 3 (by decide) hk_f91 rfl rfl dX6_undo_18 ?_
    refine lv_goto (tgt := 26) hx hb dX6_undo_21 (by decide) ?_
    subst hQ
    exact r_iret hx hb hr hK hS hB hlocks dX6_undo_26
set_option maxHeartbeats 4000000 in
set_option maxRecDepth 100000 in
theorem c_X6_isPart (l : Launch) (dC : Nat → ClassId) (dI : Nat → Nat → Nat) (ad : Nat → Nat) (cA : Nat → ClassId) (σ : Sg) (a1 : Int32) (z : Int32) (hB : f_X6_isPart a1 = some z) : Ki l dC dI ad cA yX6_isPart wsX6_isPart 0 0 [.int a1] σ (z, σ) := by
  refine mk_i (cc := cX6_isPart) (maxL := 1) (ret := (some .boolean)) (by decide) rfl (Nat.le_of_ble_eq_true rfl) ?_
  intro p e s m args below meth c Q H locs ls ⟨hx, hb, hr, hml, hown, hts, hlocks, hK, hN⟩ hQ hS hl
  have hown : s.vm.findClass RX6 = some m.cls := hown
  have hl : lv_has ls 1 [(0, .int a1)] := hl
  unfold f_X6_isPart at hB
  refine lv_iload_n hx hb dX6_isPart_0 rfl (lv_at hl 0 rfl) ?_
  refine lv_if_eq (tgt := 9) hx hb dX6_isPart_1 (by decide) (fun c1 => ?_) (fun c1 => ?_)
  · have hB := it_t c1 hB
    refine lv_iconst (v := (1 : Int32)) hx hb dX6_isPart_9 (by decide) ?_
    refine lv_goto (tgt := 14) hx hb dX6_isPart_10 (by decide) ?_
    subst hQ
    exact r_zret hx hb hr hK hS rfl (pz hB) hlocks dX6_isPart_14
  · have hB := it_f c1 hB
    refine lv_iload_n hx hb dX6_isPart_4 rfl (lv_at hl 0 rfl) ?_
    refine lv_iconst (v := (1 : Int32)) hx hb dX6_isPart_5 (by decide) ?_
    refine lv_icmp_ne (tgt := 13) hx hb dX6_isPart_6 (by decide) (fun c2 => ?_) (fun c2 => ?_)
    · have hB := it_f c2 hB
      refine lv_iconst (v := (0 : Int32)) hx hb dX6_isPart_13 (by decide) ?_
      subst hQ
      exact r_zret hx hb hr hK hS rfl (pz hB) hlocks dX6_isPart_14
    · have hB := it_t c2 hB
      refine lv_iconst (v := (1 : Int32)) hx hb dX6_isPart_9 (by decide) ?_
      refine lv_goto (tgt := 14) hx hb dX6_isPart_10 (by decide) ?_
      subst hQ
      exact r_zret hx hb hr hK hS rfl (pz hB) hlocks dX6_isPart_14
set_option maxHeartbeats 4000000 in
set_option maxRecDepth 100000 in
theorem c_X1_hangsBy (l : Launch) (dC : Nat → ClassId) (dI : Nat → Nat → Nat) (ad : Nat → Nat) (cA : Nat → ClassId) (σ : Sg) (k : Nat) (hk : k < 5) (a1 : Int32) (z : Int32) (hB : f_X1_hangsBy σ k a1 = some z) : Ki l dC dI ad cA yX1_hangsBy wsX1_hangsBy 2 42 [.ref (ad (3 + 4 * k)), .int a1] σ (z, σ) := by
  refine mk_i (cc := cX1_hangsBy) (maxL := 7) (ret := (some .boolean)) (by decide) rfl (Nat.le_of_ble_eq_true rfl) ?_
  intro p e s m args below meth c Q H locs ls ⟨hx, hb, hr, hml, hown, hts, hlocks, hK, hN⟩ hQ hS hl
  have hown : s.vm.findClass RX1 = some m.cls := hown
  have hl : lv_has ls 7 [(0, .ref (ad (3 + 4 * k))), (1, .int a1)] := hl
  have hk_f9 := hts (.fieldLink RX1 9 "ChanceNets$Net" "nodes" "I") (by decide +kernel)
  have hin_X1 : ∀ w ∈ u_ws RX1 TX1 5, w ∈ wsX1_hangsBy := by decide +kernel
  have hk_f34 := hts (.fieldLink RX1 34 "ChanceNets$Net" "lines" "I") (by decide +kernel)
  unfold f_X1_hangsBy at hB
  refine lv_iconst (v := (1 : Int32)) hx hb dX1_hangsBy_0 (by decide) ?_
  refine lv_aload_n hx hb dX1_hangsBy_1 rfl (lv_at hl 0 rfl) ?_
  refine r_get (v := .int (gI σ (4 + 2 * k))) (C := RX1) (T := TX1) (N := 5) hx hb hts hin_X1 hown hK hS (by omega) (e_net (k := k) hk) rfl 0 (by decide) hk_f9 rfl rfl dX1_hangsBy_2 ?_
  refine lv_ishl hx hb dX1_hangsBy_5 ?_
  refine lv_iconst (v := (1 : Int32)) hx hb dX1_hangsBy_6 (by decide) ?_
  refine lv_isub hx hb dX1_hangsBy_7 ?_
  refine lv_topi (fun x1 ex1 => ?_)
  have hB := vl_at ex1 hB
  refine lv_istore_n (lv' := [(2, .int x1), (0, .ref (ad (3 + 4 * k))), (1, .int a1)]) hx hb dX1_hangsBy_8 rfl hl (by decide) rfl (fun ls hl => ?_)
  refine lv_iconst (v := (1 : Int32)) hx hb dX1_hangsBy_9 (by decide) ?_
  refine lv_istore_n (lv' := [(3, .int (1 : Int32)), (2, .int x1), (0, .ref (ad (3 + 4 * k))), (1, .int a1)]) hx hb dX1_hangsBy_10 rfl hl (by decide) rfl (fun ls hl => ?_)
  refine lv_iconst (v := (1 : Int32)) hx hb dX1_hangsBy_11 (by decide) ?_
  refine lv_istore (lv' := [(4, .int (1 : Int32)), (3, .int (1 : Int32)), (2, .int x1), (0, .ref (ad (3 + 4 * k))), (1, .int a1)]) hx hb dX1_hangsBy_12 hl (by decide) rfl (fun ls hl => ?_)
  obtain ⟨t20, ht20, hB⟩ := bi_at hB
  refine wl_W (body := fun a => f_X1_hangsBy_B14 σ k a1 x1 a.1 a.2) (Hd := fun a : Int32 × Int32 => ∀ (H : Heap) (locs : List Loc) (ls : Array Slot), ST dC dI ad cA s σ H locs → lv_has ls 7 [(0, .ref (ad (3 + 4 * k))), (1, .int a1), (2, .int x1), (3, .int a.1), (4, .int a.2)] → W p l e (RM 2 42) s m args below meth c H locs 0 0 Q (F0 m 14 ls [])) (Ex := fun b : Int32 => ∀ (H : Heap) (locs : List Loc) (ls : Array Slot), ST dC dI ad cA s σ H locs → lv_has ls 7 [(2, .int x1), (3, .int b)] → W p l e (RM 2 42) s m args below meth c H locs 0 0 Q (F0 m 93 ls [])) ?_ FU _ t20 ht20 ?_ H locs ls hS (lv_sub hl [3, 4, 2, 1, 0] rfl)
  · intro a r14 hB hI14 hE14 H locs ls hS hl
    obtain ⟨x2, x3⟩ := a
    have hB : f_X1_hangsBy_B14 σ k a1 x1 x2 x3 = some r14 := hB
    unfold f_X1_hangsBy_B14 at hB
    have hS : ST dC dI ad cA s σ H locs := hS
    have hl : lv_has ls 7 [(0, .ref (ad (3 + 4 * k))), (1, .int a1), (2, .int x1), (3, .int x2), (4, .int x3)] := hl
    show W p l e (RM 2 42) s m args below meth c H locs 0 0 Q (F0 m 14 ls [])
    refine lv_iload hx hb dX1_hangsBy_14 (lv_at hl 4 rfl) ?_
    refine lv_aload_n hx hb dX1_hangsBy_16 rfl (lv_at hl 0 rfl) ?_
    refine r_get (v := .int (gI σ (4 + 2 * k))) (C := RX1) (T := TX1) (N := 5) hx hb hts hin_X1 hown hK hS (by omega) (e_net (k := k) hk) rfl 0 (by decide) hk_f9 rfl rfl dX1_hangsBy_17 ?_
    refine lv_icmp_ge (tgt := 93) hx hb dX1_hangsBy_20 (by decide) (fun c4 => ?_) (fun c4 => ?_)
    · have hB := it_t c4 hB
      exact hE14 _ (Option.some.inj hB).symm H locs ls hS (lv_sub hl [2, 3] rfl)
    · have hB := it_f c4 hB
      refine lv_iload_n hx hb dX1_hangsBy_23 rfl (lv_at hl 3 rfl) ?_
      refine lv_iload_n hx hb dX1_hangsBy_24 rfl (lv_at hl 2 rfl) ?_
      refine lv_icmp_eq (tgt := 93) hx hb dX1_hangsBy_25 (by decide) (fun c5 => ?_) (fun c5 => ?_)
      · have hB := it_t c5 hB
        exact hE14 _ (Option.some.inj hB).symm H locs ls hS (lv_sub hl [2, 3] rfl)
      · have hB := it_f c5 hB
        refine lv_iconst (v := (0 : Int32)) hx hb dX1_hangsBy_28 (by decide) ?_
        refine lv_istore (lv' := [(5, .int (0 : Int32)), (0, .ref (ad (3 + 4 * k))), (1, .int a1), (2, .int x1), (3, .int x2), (4, .int x3)]) hx hb dX1_hangsBy_29 hl (by decide) rfl (fun ls hl => ?_)
        obtain ⟨t18, ht18, hB⟩ := bi_at hB
        refine wl_W (body := fun a => f_X1_hangsBy_B31 σ k a1 a.1 a.2) (Hd := fun a : Int32 × Int32 => ∀ (H : Heap) (locs : List Loc) (ls : Array Slot), ST dC dI ad cA s σ H locs → lv_has ls 7 [(0, .ref (ad (3 + 4 * k))), (1, .int a1), (2, .int x1), (3, .int a.1), (4, .int x3), (5, .int a.2)] → W p l e (RM 2 42) s m args below meth c H locs 0 0 Q (F0 m 31 ls [])) (Ex := fun b : Int32 => ∀ (H : Heap) (locs : List Loc) (ls : Array Slot), ST dC dI ad cA s σ H locs → lv_has ls 7 [(0, .ref (ad (3 + 4 * k))), (1, .int a1), (2, .int x1), (3, .int b), (4, .int x3)] → W p l e (RM 2 42) s m args below meth c H locs 0 0 Q (F0 m 87 ls [])) ?_ FU _ t18 ht18 ?_ H locs ls hS (lv_sub hl [1, 2, 3, 4, 5, 0] rfl)
        · intro a r31 hB hI31 hE31 H locs ls hS hl
          obtain ⟨x6, x7⟩ := a
          have hB : f_X1_hangsBy_B31 σ k a1 x6 x7 = some r31 := hB
          unfold f_X1_hangsBy_B31 at hB
          have hS : ST dC dI ad cA s σ H locs := hS
          have hl : lv_has ls 7 [(0, .ref (ad (3 + 4 * k))), (1, .int a1), (2, .int x1), (3, .int x6), (4, .int x3), (5, .int x7)] := hl
          show W p l e (RM 2 42) s m args below meth c H locs 0 0 Q (F0 m 31 ls [])
          refine lv_iload hx hb dX1_hangsBy_31 (lv_at hl 5 rfl) ?_
          refine lv_aload_n hx hb dX1_hangsBy_33 rfl (lv_at hl 0 rfl) ?_
          refine r_get (v := .int (gI σ (5 + 2 * k))) (C := RX1) (T := TX1) (N := 5) hx hb hts hin_X1 hown hK hS (by omega) (e_net (k := k) hk) rfl 1 (by decide) hk_f34 rfl rfl dX1_hangsBy_34 ?_
          refine lv_icmp_ge (tgt := 87) hx hb dX1_hangsBy_37 (by decide) (fun c8 => ?_) (fun c8 => ?_)
          · have hB := it_t c8 hB
            exact hE31 _ (Option.some.inj hB).symm H locs ls hS (lv_sub hl [0, 1, 2, 3, 4] rfl)
          · have hB := it_f c8 hB
            refine lv_iconst (v := (1 : Int32)) hx hb dX1_hangsBy_40 (by decide) ?_
            refine lv_aload_n hx hb dX1_hangsBy_41 rfl (lv_at hl 0 rfl) ?_
            refine lv_iload hx hb dX1_hangsBy_42 (lv_at hl 5 rfl) ?_
            obtain ⟨t9, ht9, hB⟩ := bi_at hB
            refine r_ViP ⟨hx, hb, hml, hown, hts⟩ (c_X1_lowOf l dC dI ad cA σ k hk x7 t9 ht9) (cwV 1 hts gX1_hangsBy_X1_lowOf rfl rfl rfl (by decide +kernel) ⟨Nat.le_of_ble_eq_true rfl, Nat.le_of_ble_eq_true rfl⟩) hK hN hS (by omega) (e_net (k := k) hk) rfl rfl hl.1 rfl (Nat.le_of_ble_eq_true rfl) dX1_hangsBy_44 ⟨Nat.le_refl _, Nat.le_refl _⟩ (fun H locs hS => ?_)
            refine lv_ishl hx hb dX1_hangsBy_47 ?_
            refine lv_iconst (v := (1 : Int32)) hx hb dX1_hangsBy_48 (by decide) ?_
            refine lv_aload_n hx hb dX1_hangsBy_49 rfl (lv_at hl 0 rfl) ?_
            refine lv_iload hx hb dX1_hangsBy_50 (lv_at hl 5 rfl) ?_
            obtain ⟨t10, ht10, hB⟩ := bi_at hB
            refine r_ViP ⟨hx, hb, hml, hown, hts⟩ (c_X1_highOf l dC dI ad cA σ k hk x7 t10 ht10) (cwV 1 hts gX1_hangsBy_X1_highOf rfl rfl rfl (by decide +kernel) ⟨Nat.le_of_ble_eq_true rfl, Nat.le_of_ble_eq_true rfl⟩) hK hN hS (by omega) (e_net (k := k) hk) rfl rfl hl.1 rfl (Nat.le_of_ble_eq_true rfl) dX1_hangsBy_52 ⟨Nat.le_refl _, Nat.le_refl _⟩ (fun H locs hS => ?_)
            refine lv_ishl hx hb dX1_hangsBy_55 ?_
            refine lv_ior hx hb dX1_hangsBy_56 ?_
            refine lv_topi (fun x11 ex11 => ?_)
            have hB := vl_at ex11 hB
            refine lv_istore (lv' := [(6, .int x11), (0, .ref (ad (3 + 4 * k))), (1, .int a1), (2, .int x1), (3, .int x6), (4, .int x3), (5, .int x7)]) hx hb dX1_hangsBy_57 hl (by decide) rfl (fun ls hl => ?_)
            refine lv_iload_n hx hb dX1_hangsBy_59 rfl (lv_at hl 2 rfl) ?_
            refine lv_iload hx hb dX1_hangsBy_60 (lv_at hl 6 rfl) ?_
            refine lv_ishr hx hb dX1_hangsBy_62 ?_
            refine lv_iconst (v := (1 : Int32)) hx hb dX1_hangsBy_63 (by decide) ?_
            refine lv_iand hx hb dX1_hangsBy_64 ?_
            refine lv_iconst (v := (1 : Int32)) hx hb dX1_hangsBy_65 (by decide) ?_
            refine lv_icmp_ne (tgt := 81) hx hb dX1_hangsBy_66 (by decide) (fun c12 => ?_) (fun c12 => ?_)
            · have hB := it_f c12 hB
              obtain ⟨x13, ex13⟩ : ∃ y : Int32, y = x7 + (1 : Int32) := ⟨_, rfl⟩
              have hB := vl_at ex13 hB
              refine lv_iinc (v := x13) (lv' := [(5, .int x13), (6, .int x11), (0, .ref (ad (3 + 4 * k))), (1, .int a1), (2, .int x1), (3, .int x6), (4, .int x3)]) hx hb dX1_hangsBy_81 hl (k := 6) rfl (by rw [ex13]; rfl) (by decide) rfl (fun ls hl => ?_)
              refine lv_goto (tgt := 31) hx hb dX1_hangsBy_84 (by decide) ?_
              exact hI31 _ (Option.some.inj hB).symm H locs ls hS (lv_sub hl [2, 3, 4, 5, 6, 0] rfl)
            · have hB := it_t c12 hB
              refine lv_iload_n hx hb dX1_hangsBy_69 rfl (lv_at hl 4 rfl) ?_
              refine lv_iload hx hb dX1_hangsBy_70 (lv_at hl 0 rfl) ?_
              refine lv_iand hx hb dX1_hangsBy_72 ?_
              refine lv_if_eq (tgt := 81) hx hb dX1_hangsBy_73 (by decide) (fun c14 => ?_) (fun c14 => ?_)
              · have hB := it_t c14 hB
                obtain ⟨x15, ex15⟩ : ∃ y : Int32, y = x7 + (1 : Int32) := ⟨_, rfl⟩
                have hB := vl_at ex15 hB
                refine lv_iinc (v := x15) (lv' := [(5, .int x15), (6, .int x11), (0, .ref (ad (3 + 4 * k))), (1, .int a1), (2, .int x1), (3, .int x6), (4, .int x3)]) hx hb dX1_hangsBy_81 hl (k := 6) rfl (by rw [ex15]; rfl) (by decide) rfl (fun ls hl => ?_)
                refine lv_goto (tgt := 31) hx hb dX1_hangsBy_84 (by decide) ?_
                exact hI31 _ (Option.some.inj hB).symm H locs ls hS (lv_sub hl [2, 3, 4, 5, 6, 0] rfl)
              · have hB := it_f c14 hB
                refine lv_iload_n hx hb dX1_hangsBy_76 rfl (lv_at hl 4 rfl) ?_
                refine lv_iload hx hb dX1_hangsBy_77 (lv_at hl 0 rfl) ?_
                refine lv_ior hx hb dX1_hangsBy_79 ?_
                refine lv_topi (fun x16 ex16 => ?_)
                have hB := vl_at ex16 hB
                refine lv_istore_n (lv' := [(3, .int x16), (6, .int x11), (0, .ref (ad (3 + 4 * k))), (1, .int a1), (2, .int x1), (4, .int x3), (5, .int x7)]) hx hb dX1_hangsBy_80 rfl hl (by decide) rfl (fun ls hl => ?_)
                obtain ⟨x17, ex17⟩ : ∃ y : Int32, y = x7 + (1 : Int32) := ⟨_, rfl⟩
                have hB := vl_at ex17 hB
                refine lv_iinc (v := x17) (lv' := [(5, .int x17), (3, .int x16), (6, .int x11), (0, .ref (ad (3 + 4 * k))), (1, .int a1), (2, .int x1), (4, .int x3)]) hx hb dX1_hangsBy_81 hl (k := 6) rfl (by rw [ex17]; rfl) (by decide) rfl (fun ls hl => ?_)
                refine lv_goto (tgt := 31) hx hb dX1_hangsBy_84 (by decide) ?_
                exact hI31 _ (Option.some.inj hB).symm H locs ls hS (lv_sub hl [3, 4, 5, 1, 6, 0] rfl)
        · skip
          intro H locs ls hS hl
          have hS : ST dC dI ad cA s σ H locs := hS
          have hl : lv_has ls 7 [(0, .ref (ad (3 + 4 * k))), (1, .int a1), (2, .int x1), (3, .int t18), (4, .int x3)] := hl
          show W p l e (RM 2 42) s m args below meth c H locs 0 0 Q (F0 m 87 ls [])
          obtain ⟨x19, ex19⟩ : ∃ y : Int32, y = x3 + (1 : Int32) := ⟨_, rfl⟩
          have hB := vl_at ex19 hB
          refine lv_iinc (v := x19) (lv' := [(4, .int x19), (0, .ref (ad (3 + 4 * k))), (1, .int a1), (2, .int x1), (3, .int t18)]) hx hb dX1_hangsBy_87 hl (k := 4) rfl (by rw [ex19]; rfl) (by decide) rfl (fun ls hl => ?_)
          refine lv_goto (tgt := 14) hx hb dX1_hangsBy_90 (by decide) ?_
          exact hI14 _ (Option.some.inj hB).symm H locs ls hS (lv_sub hl [1, 2, 3, 4, 0] rfl)
  · skip
    intro H locs ls hS hl
    have hS : ST dC dI ad cA s σ H locs := hS
    have hl : lv_has ls 7 [(2, .int x1), (3, .int t20)] := hl
    show W p l e (RM 2 42) s m args below meth c H locs 0 0 Q (F0 m 93 ls [])
    refine lv_iload_n hx hb dX1_hangsBy_93 rfl (lv_at hl 1 rfl) ?_
    refine lv_iload_n hx hb dX1_hangsBy_94 rfl (lv_at hl 0 rfl) ?_
    refine lv_icmp_ne (tgt := 102) hx hb dX1_hangsBy_95 (by decide) (fun c21 => ?_) (fun c21 => ?_)
    · have hB := it_f c21 hB
      refine lv_iconst (v := (0 : Int32)) hx hb dX1_hangsBy_102 (by decide) ?_
      subst hQ
      exact r_zret hx hb hr hK hS rfl (pz hB) hlocks dX1_hangsBy_103
    · have hB := it_t c21 hB
      refine lv_iconst (v := (1 : Int32)) hx hb dX1_hangsBy_98 (by decide) ?_
      refine lv_goto (tgt := 103) hx hb dX1_hangsBy_99 (by decide) ?_
      subst hQ
      exact r_zret hx hb hr hK hS rfl (pz hB) hlocks dX1_hangsBy_103
set_option maxHeartbeats 4000000 in
set_option maxRecDepth 100000 in
theorem c_X1_hangs (l : Launch) (dC : Nat → ClassId) (dI : Nat → Nat → Nat) (ad : Nat → Nat) (cA : Nat → ClassId) (σ : Sg) (k : Nat) (hk : k < 5) (z : Int32) (hB : f_X1_hangs σ k = some z) : Ki l dC dI ad cA yX1_hangs wsX1_hangs 3 68 [.ref (ad (3 + 4 * k))] σ (z, σ) := by
  refine mk_i (cc := cX1_hangs) (maxL := 1) (ret := (some .boolean)) (by decide) rfl (Nat.le_of_ble_eq_true rfl) ?_
  intro p e s m args below meth c Q H locs ls ⟨hx, hb, hr, hml, hown, hts, hlocks, hK, hN⟩ hQ hS hl
  have hown : s.vm.findClass RX1 = some m.cls := hown
  have hl : lv_has ls 1 [(0, .ref (ad (3 + 4 * k)))] := hl
  have hk_f34 := hts (.fieldLink RX1 34 "ChanceNets$Net" "lines" "I") (by decide +kernel)
  have hin_X1 : ∀ w ∈ u_ws RX1 TX1 5, w ∈ wsX1_hangs := by decide +kernel
  unfold f_X1_hangs at hB
  refine lv_aload_n hx hb dX1_hangs_0 rfl (lv_at hl 0 rfl) ?_
  refine lv_iconst (v := (1 : Int32)) hx hb dX1_hangs_1 (by decide) ?_
  refine lv_aload_n hx hb dX1_hangs_2 rfl (lv_at hl 0 rfl) ?_
  refine r_get (v := .int (gI σ (5 + 2 * k))) (C := RX1) (T := TX1) (N := 5) hx hb hts hin_X1 hown hK hS (by omega) (e_net (k := k) hk) rfl 1 (by decide) hk_f34 rfl rfl dX1_hangs_3 ?_
  refine lv_ishl hx hb dX1_hangs_6 ?_
  refine lv_iconst (v := (1 : Int32)) hx hb dX1_hangs_7 (by decide) ?_
  refine lv_isub hx hb dX1_hangs_8 ?_
  obtain ⟨t1, ht1, hB⟩ := bi_at hB
  refine r_ViP ⟨hx, hb, hml, hown, hts⟩ (c_X1_hangsBy l dC dI ad cA σ k hk (((1 : Int32) <<< ((gI σ (5 + 2 * k)) &&& 31)) - (1 : Int32)) t1 ht1) (cwV 1 hts gX1_hangs_X1_hangsBy rfl rfl rfl (by decide +kernel) ⟨Nat.le_of_ble_eq_true rfl, Nat.le_of_ble_eq_true rfl⟩) hK hN hS (by omega) (e_net (k := k) hk) rfl rfl hl.1 rfl (Nat.le_of_ble_eq_true rfl) dX1_hangs_9 ⟨Nat.le_refl _, Nat.le_refl _⟩ (fun H locs hS => ?_)
  obtain ⟨h2, hB⟩ := gd_at hB
  subst hQ
  exact r_zret hx hb hr hK hS (okZ_nar h2) (pz hB) hlocks dX1_hangs_12
set_option maxHeartbeats 4000000 in
set_option maxRecDepth 100000 in
theorem c_X0_addRow (l : Launch) (dC : Nat → ClassId) (dI : Nat → Nat → Nat) (ad : Nat → Nat) (cA : Nat → ClassId) (σ : Sg) (a1 : Int32) (z : Sg) (hB : f_X0_addRow σ a1 = some z) : Kv l dC dI ad cA yX0_addRow wsX0_addRow 0 0 [.ref (ad 28), .int a1] σ z := by
  refine mk_v (cc := cX0_addRow) (maxL := 2) (ret := none) (by decide) rfl (Nat.le_of_ble_eq_true rfl) ?_
  intro p e s m args below meth c Q H locs ls ⟨hx, hb, hr, hml, hown, hts, hlocks, hK, hN⟩ hQ hS hl
  have hown : s.vm.findClass RX0 = some m.cls := hown
  have hl : lv_has ls 2 [(0, .ref (ad 28)), (1, .int a1)] := hl
  have hk_f28 := hts (.fieldLink RX0 28 "ChanceNets$Balance" "size" "I") (by decide +kernel)
  have hin_X0 : ∀ w ∈ u_ws RX0 TX0 3, w ∈ wsX0_addRow := by decide +kernel
  have hk_f16 := hts (.fieldLink RX0 16 "ChanceNets$Balance" "order" "[I") (by decide +kernel)
  unfold f_X0_addRow at hB
  refine lv_aload_n hx hb dX0_addRow_0 rfl (lv_at hl 0 rfl) ?_
  refine r_get (v := .int (gI σ 15)) (C := RX0) (T := TX0) (N := 3) hx hb hts hin_X0 hown hK hS (by decide) e_28 rfl 2 (by decide) hk_f28 rfl rfl dX0_addRow_1 ?_
  refine lv_iconst (v := (5 : Int32)) hx hb dX0_addRow_4 (by decide) ?_
  refine lv_icmp_ge (tgt := 28) hx hb dX0_addRow_5 (by decide) (fun c1 => ?_) (fun c1 => ?_)
  · have hB := it_t c1 hB
    subst hQ
    exact r_vret hx hb hr hK hS hB hlocks dX0_addRow_28
  · have hB := it_f c1 hB
    refine lv_aload_n hx hb dX0_addRow_8 rfl (lv_at hl 0 rfl) ?_
    refine r_get (v := .ref (ad 35)) (C := RX0) (T := TX0) (N := 3) hx hb hts hin_X0 hown hK hS (by decide) e_28 rfl 1 (by decide) hk_f16 rfl rfl dX0_addRow_9 ?_
    refine lv_aload_n hx hb dX0_addRow_12 rfl (lv_at hl 0 rfl) ?_
    refine r_get (v := .int (gI σ 15)) (C := RX0) (T := TX0) (N := 3) hx hb hts hin_X0 hown hK hS (by decide) e_28 rfl 2 (by decide) hk_f28 rfl rfl dX0_addRow_13 ?_
    refine lv_iload_n hx hb dX0_addRow_16 rfl (lv_at hl 1 rfl) ?_
    obtain ⟨h2, hB⟩ := gd_at hB
    refine r_iast hx hb hK hS h2 dX0_addRow_17 (fun H locs hS => ?_)
    obtain ⟨σ3, eσ3⟩ : ∃ t : Sg, t = pA σ 35 (gI σ 15).toNatClampNeg a1 := ⟨_, rfl⟩
    rw [← eσ3] at hS
    have hB := vl_at eσ3 hB
    refine lv_aload_n hx hb dX0_addRow_18 rfl (lv_at hl 0 rfl) ?_
    refine lv_dup hx hb dX0_addRow_19 rfl ?_
    refine r_get (v := .int (gI σ3 15)) (C := RX0) (T := TX0) (N := 3) hx hb hts hin_X0 hown hK hS (by decide) e_28 rfl 2 (by decide) hk_f28 rfl rfl dX0_addRow_20 ?_
    refine lv_iconst (v := (1 : Int32)) hx hb dX0_addRow_23 (by decide) ?_
    refine lv_iadd hx hb dX0_addRow_24 ?_
    refine lv_topi (fun x4 ex4 => ?_)
    have hB := vl_at ex4 hB
    refine r_put (σ' := pI σ3 15 x4) (v := .int x4) (C := RX0) (T := TX0) (N := 3) hx hb hts hin_X0 tyX0 tyX0_ok nmX0 hown hK hS (by decide) e_28 rfl 2 (by decide) hk_f28 rfl rfl rfl rfl (Nat.le_of_ble_eq_true rfl) (fun d hd h => eo d hd h) rfl dX0_addRow_25 (fun H locs hS => ?_)
    obtain ⟨σ5, eσ5⟩ : ∃ t : Sg, t = pI σ3 15 x4 := ⟨_, rfl⟩
    rw [← eσ5] at hS
    have hB := vl_at eσ5 hB
    subst hQ
    exact r_vret hx hb hr hK hS hB hlocks dX0_addRow_28
set_option maxHeartbeats 4000000 in
set_option maxRecDepth 100000 in
theorem c_X0_load (l : Launch) (dC : Nat → ClassId) (dI : Nat → Nat → Nat) (ad : Nat → Nat) (cA : Nat → ClassId) (σ : Sg) (kn : Nat) (hkn : kn < 5) (a2 : Int32) (a3 : Int32) (z : Sg) (hB : f_X0_load σ kn a2 a3 = some z) : Kv l dC dI ad cA yX0_load wsX0_load 2 44 [.ref (ad 28), .ref (ad (3 + 4 * kn)), .int a2, .int a3] σ z := by
  refine mk_v (cc := cX0_load) (maxL := 6) (ret := none) (by decide) rfl (Nat.le_of_ble_eq_true rfl) ?_
  intro p e s m args below meth c Q H locs ls ⟨hx, hb, hr, hml, hown, hts, hlocks, hK, hN⟩ hQ hS hl
  have hown : s.vm.findClass RX0 = some m.cls := hown
  have hl : lv_has ls 6 [(0, .ref (ad 28)), (1, .ref (ad (3 + 4 * kn))), (2, .int a2), (3, .int a3)] := hl
  have hk_f28 := hts (.fieldLink RX0 28 "ChanceNets$Balance" "size" "I") (by decide +kernel)
  have hin_X0 : ∀ w ∈ u_ws RX0 TX0 3, w ∈ wsX0_load := by decide +kernel
  have hk_f38 := hts (.fieldLink RX0 38 "ChanceNets$Net" "nodes" "I") (by decide +kernel)
  have hin_X1 : ∀ w ∈ u_ws RX1 TX1 5, w ∈ wsX0_load := by decide +kernel
  have hk_f11 := hts (.fieldLink RX0 11 "ChanceNets$Balance" "grid" "[[J") (by decide +kernel)
  have hk_f16 := hts (.fieldLink RX0 16 "ChanceNets$Balance" "order" "[I") (by decide +kernel)
  unfold f_X0_load at hB
  refine lv_aload_n hx hb dX0_load_0 rfl (lv_at hl 0 rfl) ?_
  refine lv_iconst (v := (0 : Int32)) hx hb dX0_load_1 (by decide) ?_
  refine r_put (σ' := pI σ 15 (0 : Int32)) (v := .int (0 : Int32)) (C := RX0) (T := TX0) (N := 3) hx hb hts hin_X0 tyX0 tyX0_ok nmX0 hown hK hS (by decide) e_28 rfl 2 (by decide) hk_f28 rfl rfl rfl rfl (Nat.le_of_ble_eq_true rfl) (fun d hd h => eo d hd h) rfl dX0_load_2 (fun H locs hS => ?_)
  obtain ⟨σ1, eσ1⟩ : ∃ t : Sg, t = pI σ 15 (0 : Int32) := ⟨_, rfl⟩
  rw [← eσ1] at hS
  have hB := vl_at eσ1 hB
  refine lv_iconst (v := (0 : Int32)) hx hb dX0_load_5 (by decide) ?_
  refine lv_istore (lv' := [(4, .int (0 : Int32)), (0, .ref (ad 28)), (1, .ref (ad (3 + 4 * kn))), (2, .int a2), (3, .int a3)]) hx hb dX0_load_6 hl (by decide) rfl (fun ls hl => ?_)
  obtain ⟨t11, ht11, hB⟩ := bi_at hB
  refine wl_W (body := fun a => f_X0_load_B8 kn a2 a3 a.1 a.2) (Hd := fun a : Int32 × Sg => ∀ (H : Heap) (locs : List Loc) (ls : Array Slot), ST dC dI ad cA s a.2 H locs → lv_has ls 6 [(0, .ref (ad 28)), (1, .ref (ad (3 + 4 * kn))), (2, .int a2), (3, .int a3), (4, .int a.1)] → W p l e (RM 2 44) s m args below meth c H locs 0 0 Q (F0 m 8 ls [])) (Ex := fun b : Sg => ∀ (H : Heap) (locs : List Loc) (ls : Array Slot), ST dC dI ad cA s b H locs → lv_has ls 6 [(0, .ref (ad 28)), (1, .ref (ad (3 + 4 * kn))), (3, .int a3)] → W p l e (RM 2 44) s m args below meth c H locs 0 0 Q (F0 m 41 ls [])) ?_ FU _ t11 ht11 ?_ H locs ls hS (lv_sub hl [1, 2, 3, 4, 0] rfl)
  · intro a r8 hB hI8 hE8 H locs ls hS hl
    obtain ⟨x2, σ3⟩ := a
    have hB : f_X0_load_B8 kn a2 a3 x2 σ3 = some r8 := hB
    unfold f_X0_load_B8 at hB
    have hS : ST dC dI ad cA s σ3 H locs := hS
    have hl : lv_has ls 6 [(0, .ref (ad 28)), (1, .ref (ad (3 + 4 * kn))), (2, .int a2), (3, .int a3), (4, .int x2)] := hl
    show W p l e (RM 2 44) s m args below meth c H locs 0 0 Q (F0 m 8 ls [])
    refine lv_iload hx hb dX0_load_8 (lv_at hl 4 rfl) ?_
    refine lv_aload_n hx hb dX0_load_10 rfl (lv_at hl 1 rfl) ?_
    refine r_get (v := .int (gI σ3 (4 + 2 * kn))) (C := RX1) (T := TX1) (N := 5) hx hb hts hin_X1 hown hK hS (by omega) (e_net (k := kn) hkn) rfl 0 (by decide) hk_f38 rfl rfl dX0_load_11 ?_
    refine lv_icmp_ge (tgt := 41) hx hb dX0_load_14 (by decide) (fun c4 => ?_) (fun c4 => ?_)
    · have hB := it_t c4 hB
      exact hE8 _ (Option.some.inj hB).symm H locs ls hS (lv_sub hl [0, 1, 3] rfl)
    · have hB := it_f c4 hB
      refine lv_iload hx hb dX0_load_17 (lv_at hl 4 rfl) ?_
      refine lv_iload_n hx hb dX0_load_19 rfl (lv_at hl 2 rfl) ?_
      refine lv_icmp_eq (tgt := 35) hx hb dX0_load_20 (by decide) (fun c5 => ?_) (fun c5 => ?_)
      · have hB := it_t c5 hB
        obtain ⟨x6, ex6⟩ : ∃ y : Int32, y = x2 + (1 : Int32) := ⟨_, rfl⟩
        have hB := vl_at ex6 hB
        refine lv_iinc (v := x6) (lv' := [(4, .int x6), (0, .ref (ad 28)), (1, .ref (ad (3 + 4 * kn))), (2, .int a2), (3, .int a3)]) hx hb dX0_load_35 hl (k := 4) rfl (by rw [ex6]; rfl) (by decide) rfl (fun ls hl => ?_)
        refine lv_goto (tgt := 8) hx hb dX0_load_38 (by decide) ?_
        exact hI8 _ (Option.some.inj hB).symm H locs ls hS (lv_sub hl [1, 2, 3, 4, 0] rfl)
      · have hB := it_f c5 hB
        refine lv_iload hx hb dX0_load_23 (lv_at hl 4 rfl) ?_
        refine lv_iload_n hx hb dX0_load_25 rfl (lv_at hl 3 rfl) ?_
        refine lv_icmp_eq (tgt := 35) hx hb dX0_load_26 (by decide) (fun c7 => ?_) (fun c7 => ?_)
        · have hB := it_t c7 hB
          obtain ⟨x8, ex8⟩ : ∃ y : Int32, y = x2 + (1 : Int32) := ⟨_, rfl⟩
          have hB := vl_at ex8 hB
          refine lv_iinc (v := x8) (lv' := [(4, .int x8), (0, .ref (ad 28)), (1, .ref (ad (3 + 4 * kn))), (2, .int a2), (3, .int a3)]) hx hb dX0_load_35 hl (k := 4) rfl (by rw [ex8]; rfl) (by decide) rfl (fun ls hl => ?_)
          refine lv_goto (tgt := 8) hx hb dX0_load_38 (by decide) ?_
          exact hI8 _ (Option.some.inj hB).symm H locs ls hS (lv_sub hl [1, 2, 3, 4, 0] rfl)
        · have hB := it_f c7 hB
          refine lv_aload_n hx hb dX0_load_29 rfl (lv_at hl 0 rfl) ?_
          refine lv_iload hx hb dX0_load_30 (lv_at hl 4 rfl) ?_
          obtain ⟨t9, ht9, hB⟩ := bi_at hB
          refine r_Vv ⟨hx, hb, hml, hown, hts⟩ (c_X0_addRow l dC dI ad cA σ3 x2 t9 ht9) (cwV 1 hts gX0_load_X0_addRow rfl rfl rfl (by decide +kernel) ⟨Nat.le_of_ble_eq_true rfl, Nat.le_of_ble_eq_true rfl⟩) hK hN hS (by decide) e_28 rfl rfl hl.1 rfl (Nat.le_of_ble_eq_true rfl) dX0_load_32 ⟨Nat.le_refl _, Nat.le_refl _⟩ (fun H locs hS => ?_)
          obtain ⟨x10, ex10⟩ : ∃ y : Int32, y = x2 + (1 : Int32) := ⟨_, rfl⟩
          have hB := vl_at ex10 hB
          refine lv_iinc (v := x10) (lv' := [(4, .int x10), (0, .ref (ad 28)), (1, .ref (ad (3 + 4 * kn))), (2, .int a2), (3, .int a3)]) hx hb dX0_load_35 hl (k := 4) rfl (by rw [ex10]; rfl) (by decide) rfl (fun ls hl => ?_)
          refine lv_goto (tgt := 8) hx hb dX0_load_38 (by decide) ?_
          exact hI8 _ (Option.some.inj hB).symm H locs ls hS (lv_sub hl [1, 2, 3, 4, 0] rfl)
  · skip
    intro H locs ls hS hl
    have hS : ST dC dI ad cA s t11 H locs := hS
    have hl : lv_has ls 6 [(0, .ref (ad 28)), (1, .ref (ad (3 + 4 * kn))), (3, .int a3)] := hl
    show W p l e (RM 2 44) s m args below meth c H locs 0 0 Q (F0 m 41 ls [])
    refine lv_aload_n hx hb dX0_load_41 rfl (lv_at hl 0 rfl) ?_
    refine lv_iload_n hx hb dX0_load_42 rfl (lv_at hl 2 rfl) ?_
    obtain ⟨t12, ht12, hB⟩ := bi_at hB
    refine r_Vv ⟨hx, hb, hml, hown, hts⟩ (c_X0_addRow l dC dI ad cA t11 a3 t12 ht12) (cwV 1 hts gX0_load_X0_addRow rfl rfl rfl (by decide +kernel) ⟨Nat.le_of_ble_eq_true rfl, Nat.le_of_ble_eq_true rfl⟩) hK hN hS (by decide) e_28 rfl rfl hl.1 rfl (Nat.le_of_ble_eq_true rfl) dX0_load_43 ⟨Nat.le_refl _, Nat.le_refl _⟩ (fun H locs hS => ?_)
    refine lv_iconst (v := (0 : Int32)) hx hb dX0_load_46 (by decide) ?_
    refine lv_istore (lv' := [(4, .int (0 : Int32)), (0, .ref (ad 28)), (1, .ref (ad (3 + 4 * kn))), (3, .int a3)]) hx hb dX0_load_47 hl (by decide) rfl (fun ls hl => ?_)
    obtain ⟨t35, ht35, hB⟩ := bi_at hB
    refine wl_W (body := fun a => f_X0_load_B49 kn a.1 a.2) (Hd := fun a : Int32 × Sg => ∀ (H : Heap) (locs : List Loc) (ls : Array Slot), ST dC dI ad cA s a.2 H locs → lv_has ls 6 [(0, .ref (ad 28)), (1, .ref (ad (3 + 4 * kn))), (4, .int a.1)] → W p l e (RM 2 44) s m args below meth c H locs 0 0 Q (F0 m 49 ls [])) (Ex := fun b : Sg => ∀ (H : Heap) (locs : List Loc) (ls : Array Slot), ST dC dI ad cA s b H locs → lv_has ls 6 [] → W p l e (RM 2 44) s m args below meth c H locs 0 0 Q (F0 m 134 ls [])) ?_ FU _ t35 ht35 ?_ H locs ls hS (lv_sub hl [1, 2, 0] rfl)
    · intro a r49 hB hI49 hE49 H locs ls hS hl
      obtain ⟨x13, σ14⟩ := a
      have hB : f_X0_load_B49 kn x13 σ14 = some r49 := hB
      unfold f_X0_load_B49 at hB
      have hS : ST dC dI ad cA s σ14 H locs := hS
      have hl : lv_has ls 6 [(0, .ref (ad 28)), (1, .ref (ad (3 + 4 * kn))), (4, .int x13)] := hl
      show W p l e (RM 2 44) s m args below meth c H locs 0 0 Q (F0 m 49 ls [])
      refine lv_iload hx hb dX0_load_49 (lv_at hl 2 rfl) ?_
      refine lv_aload_n hx hb dX0_load_51 rfl (lv_at hl 0 rfl) ?_
      refine r_get (v := .int (gI σ14 15)) (C := RX0) (T := TX0) (N := 3) hx hb hts hin_X0 hown hK hS (by decide) e_28 rfl 2 (by decide) hk_f28 rfl rfl dX0_load_52 ?_
      refine lv_icmp_ge (tgt := 134) hx hb dX0_load_55 (by decide) (fun c15 => ?_) (fun c15 => ?_)
      · have hB := it_t c15 hB
        exact hE49 _ (Option.some.inj hB).symm H locs ls hS (lv_sub hl [] rfl)
      · have hB := it_f c15 hB
        refine lv_iconst (v := (0 : Int32)) hx hb dX0_load_58 (by decide) ?_
        refine lv_istore (lv' := [(5, .int (0 : Int32)), (0, .ref (ad 28)), (1, .ref (ad (3 + 4 * kn))), (4, .int x13)]) hx hb dX0_load_59 hl (by decide) rfl (fun ls hl => ?_)
        obtain ⟨t33, ht33, hB⟩ := bi_at hB
        refine wl_W (body := fun a => f_X0_load_B61 kn x13 a.1 a.2) (Hd := fun a : Int32 × Sg => ∀ (H : Heap) (locs : List Loc) (ls : Array Slot), ST dC dI ad cA s a.2 H locs → lv_has ls 6 [(0, .ref (ad 28)), (1, .ref (ad (3 + 4 * kn))), (4, .int x13), (5, .int a.1)] → W p l e (RM 2 44) s m args below meth c H locs 0 0 Q (F0 m 61 ls [])) (Ex := fun b : Sg => ∀ (H : Heap) (locs : List Loc) (ls : Array Slot), ST dC dI ad cA s b H locs → lv_has ls 6 [(0, .ref (ad 28)), (1, .ref (ad (3 + 4 * kn))), (4, .int x13)] → W p l e (RM 2 44) s m args below meth c H locs 0 0 Q (F0 m 128 ls [])) ?_ FU _ t33 ht33 ?_ H locs ls hS (lv_sub hl [1, 2, 3, 0] rfl)
        · intro a r61 hB hI61 hE61 H locs ls hS hl
          obtain ⟨x16, σ17⟩ := a
          have hB : f_X0_load_B61 kn x13 x16 σ17 = some r61 := hB
          unfold f_X0_load_B61 at hB
          have hS : ST dC dI ad cA s σ17 H locs := hS
          have hl : lv_has ls 6 [(0, .ref (ad 28)), (1, .ref (ad (3 + 4 * kn))), (4, .int x13), (5, .int x16)] := hl
          show W p l e (RM 2 44) s m args below meth c H locs 0 0 Q (F0 m 61 ls [])
          refine lv_iload hx hb dX0_load_61 (lv_at hl 3 rfl) ?_
          refine lv_aload_n hx hb dX0_load_63 rfl (lv_at hl 0 rfl) ?_
          refine r_get (v := .int (gI σ17 15)) (C := RX0) (T := TX0) (N := 3) hx hb hts hin_X0 hown hK hS (by decide) e_28 rfl 2 (by decide) hk_f28 rfl rfl dX0_load_64 ?_
          refine lv_icmp_ge (tgt := 128) hx hb dX0_load_67 (by decide) (fun c18 => ?_) (fun c18 => ?_)
          · have hB := it_t c18 hB
            exact hE61 _ (Option.some.inj hB).symm H locs ls hS (lv_sub hl [0, 1, 2] rfl)
          · have hB := it_f c18 hB
            refine lv_aload_n hx hb dX0_load_70 rfl (lv_at hl 0 rfl) ?_
            refine r_get (v := .ref (ad 29)) (C := RX0) (T := TX0) (N := 3) hx hb hts hin_X0 hown hK hS (by decide) e_28 rfl 0 (by decide) hk_f11 rfl rfl dX0_load_71 ?_
            refine lv_iload hx hb dX0_load_74 (lv_at hl 2 rfl) ?_
            obtain ⟨h19, hB⟩ := gd_at hB
            refine r_grid hx hb hK hS h19 dX0_load_76 ?_
            have hnh19 := okI_nat h19
            refine lv_iload hx hb dX0_load_77 (lv_at hl 3 rfl) ?_
            refine lv_iload hx hb dX0_load_79 (lv_at hl 2 rfl) ?_
            refine lv_iload hx hb dX0_load_81 (lv_at hl 3 rfl) ?_
            refine lv_icmp_ne (tgt := 101) hx hb dX0_load_83 (by decide) (fun c20 => ?_) (fun c20 => ?_)
            · have hB := it_f c20 hB
              refine lv_aload_n hx hb dX0_load_101 rfl (lv_at hl 1 rfl) ?_
              refine lv_aload_n hx hb dX0_load_102 rfl (lv_at hl 0 rfl) ?_
              refine r_get (v := .ref (ad 35)) (C := RX0) (T := TX0) (N := 3) hx hb hts hin_X0 hown hK hS (by decide) e_28 rfl 1 (by decide) hk_f16 rfl rfl dX0_load_103 ?_
              refine lv_iload hx hb dX0_load_106 (lv_at hl 2 rfl) ?_
              obtain ⟨h21, hB⟩ := gd_at hB
              refine r_iald hx hb hK hS h21 dX0_load_108 ?_
              refine lv_aload_n hx hb dX0_load_109 rfl (lv_at hl 0 rfl) ?_
              refine r_get (v := .ref (ad 35)) (C := RX0) (T := TX0) (N := 3) hx hb hts hin_X0 hown hK hS (by decide) e_28 rfl 1 (by decide) hk_f16 rfl rfl dX0_load_110 ?_
              refine lv_iload hx hb dX0_load_113 (lv_at hl 3 rfl) ?_
              obtain ⟨h22, hB⟩ := gd_at hB
              refine r_iald hx hb hK hS h22 dX0_load_115 ?_
              obtain ⟨t23, ht23, hB⟩ := bi_at hB
              refine r_ViP ⟨hx, hb, hml, hown, hts⟩ (c_X1_widthAt l dC dI ad cA σ17 kn hkn (gA σ17 35 x13.toNatClampNeg) (gA σ17 35 x16.toNatClampNeg) t23 ht23) (cwV 2 hts gX0_load_X1_widthAt rfl rfl rfl (by decide +kernel) ⟨Nat.le_of_ble_eq_true rfl, Nat.le_of_ble_eq_true rfl⟩) hK hN hS (by omega) (e_net (k := kn) hkn) rfl rfl hl.1 rfl (Nat.le_of_ble_eq_true rfl) dX0_load_116 ⟨Nat.le_refl _, Nat.le_refl _⟩ (fun H locs hS => ?_)
              refine lv_ineg hx hb dX0_load_119 ?_
              refine lv_i2l hx hb dX0_load_120 rfl ?_
              refine lv_topl (fun x24 ex24 => ?_)
              have hB := vl_at ex24 hB
              obtain ⟨h25, hB⟩ := gd_at hB
              refine r_last hx hb hK hS (by rw [lenJ_g hnh19]; exact h25) dX0_load_121 (fun H locs hS => ?_)
              obtain ⟨σ26, eσ26⟩ : ∃ t : Sg, t = pJ σ17 (30 + x13.toNatClampNeg) x16.toNatClampNeg x24 := ⟨_, rfl⟩
              rw [← eσ26] at hS
              have hB := vl_at eσ26 hB
              obtain ⟨x27, ex27⟩ : ∃ y : Int32, y = x16 + (1 : Int32) := ⟨_, rfl⟩
              have hB := vl_at ex27 hB
              refine lv_iinc (v := x27) (lv' := [(5, .int x27), (0, .ref (ad 28)), (1, .ref (ad (3 + 4 * kn))), (4, .int x13)]) hx hb dX0_load_122 hl (k := 3) rfl (by rw [ex27]; rfl) (by decide) rfl (fun ls hl => ?_)
              refine lv_goto (tgt := 61) hx hb dX0_load_125 (by decide) ?_
              exact hI61 _ (Option.some.inj hB).symm H locs ls hS (lv_sub hl [1, 2, 3, 0] rfl)
            · have hB := it_t c20 hB
              refine lv_aload_n hx hb dX0_load_86 rfl (lv_at hl 1 rfl) ?_
              refine lv_aload_n hx hb dX0_load_87 rfl (lv_at hl 0 rfl) ?_
              refine r_get (v := .ref (ad 35)) (C := RX0) (T := TX0) (N := 3) hx hb hts hin_X0 hown hK hS (by decide) e_28 rfl 1 (by decide) hk_f16 rfl rfl dX0_load_88 ?_
              refine lv_iload hx hb dX0_load_91 (lv_at hl 2 rfl) ?_
              obtain ⟨h28, hB⟩ := gd_at hB
              refine r_iald hx hb hK hS h28 dX0_load_93 ?_
              obtain ⟨t29, ht29, hB⟩ := bi_at hB
              refine r_ViP ⟨hx, hb, hml, hown, hts⟩ (c_X1_degree l dC dI ad cA σ17 kn hkn (gA σ17 35 x13.toNatClampNeg) t29 ht29) (cwV 1 hts gX0_load_X1_degree rfl rfl rfl (by decide +kernel) ⟨Nat.le_of_ble_eq_true rfl, Nat.le_of_ble_eq_true rfl⟩) hK hN hS (by omega) (e_net (k := kn) hkn) rfl rfl hl.1 rfl (Nat.le_of_ble_eq_true rfl) dX0_load_94 ⟨Nat.le_refl _, Nat.le_refl _⟩ (fun H locs hS => ?_)
              refine lv_i2l hx hb dX0_load_97 rfl ?_
              refine lv_goto (tgt := 121) hx hb dX0_load_98 (by decide) ?_
              obtain ⟨h30, hB⟩ := gd_at hB
              refine r_last hx hb hK hS (by rw [lenJ_g hnh19]; exact h30) dX0_load_121 (fun H locs hS => ?_)
              obtain ⟨σ31, eσ31⟩ : ∃ t : Sg, t = pJ σ17 (30 + x13.toNatClampNeg) x16.toNatClampNeg t29.toInt64 := ⟨_, rfl⟩
              rw [← eσ31] at hS
              have hB := vl_at eσ31 hB
              obtain ⟨x32, ex32⟩ : ∃ y : Int32, y = x16 + (1 : Int32) := ⟨_, rfl⟩
              have hB := vl_at ex32 hB
              refine lv_iinc (v := x32) (lv' := [(5, .int x32), (0, .ref (ad 28)), (1, .ref (ad (3 + 4 * kn))), (4, .int x13)]) hx hb dX0_load_122 hl (k := 3) rfl (by rw [ex32]; rfl) (by decide) rfl (fun ls hl => ?_)
              refine lv_goto (tgt := 61) hx hb dX0_load_125 (by decide) ?_
              exact hI61 _ (Option.some.inj hB).symm H locs ls hS (lv_sub hl [1, 2, 3, 0] rfl)
        · skip
          intro H locs ls hS hl
          have hS : ST dC dI ad cA s t33 H locs := hS
          have hl : lv_has ls 6 [(0, .ref (ad 28)), (1, .ref (ad (3 + 4 * kn))), (4, .int x13)] := hl
          show W p l e (RM 2 44) s m args below meth c H locs 0 0 Q (F0 m 128 ls [])
          obtain ⟨x34, ex34⟩ : ∃ y : Int32, y = x13 + (1 : Int32) := ⟨_, rfl⟩
          have hB := vl_at ex34 hB
          refine lv_iinc (v := x34) (lv' := [(4, .int x34), (0, .ref (ad 28)), (1, .ref (ad (3 + 4 * kn)))]) hx hb dX0_load_128 hl (k := 2) rfl (by rw [ex34]; rfl) (by decide) rfl (fun ls hl => ?_)
          refine lv_goto (tgt := 49) hx hb dX0_load_131 (by decide) ?_
          exact hI49 _ (Option.some.inj hB).symm H locs ls hS (lv_sub hl [1, 2, 0] rfl)
    · skip
      intro H locs ls hS hl
      have hS : ST dC dI ad cA s t35 H locs := hS
      have hl : lv_has ls 6 [] := hl
      show W p l e (RM 2 44) s m args below meth c H locs 0 0 Q (F0 m 134 ls [])
      subst hQ
      exact r_vret hx hb hr hK hS hB hlocks dX0_load_134
set_option maxHeartbeats 4000000 in
set_option maxRecDepth 100000 in
theorem c_X0_determinant (l : Launch) (dC : Nat → ClassId) (dI : Nat → Nat → Nat) (ad : Nat → Nat) (cA : Nat → ClassId) (σ : Sg)  (z : Int64 × Sg) (hB : f_X0_determinant σ = some z) : Kl l dC dI ad cA yX0_determinant wsX0_determinant 0 0 [.ref (ad 28)] σ z := by
  refine mk_l (cc := cX0_determinant) (maxL := 8) (ret := (some .long)) (by decide) rfl (Nat.le_of_ble_eq_true rfl) ?_
  intro p e s m args below meth c Q H locs ls ⟨hx, hb, hr, hml, hown, hts, hlocks, hK, hN⟩ hQ hS hl
  have hown : s.vm.findClass RX0 = some m.cls := hown
  have hl : lv_has ls 8 [(0, .ref (ad 28))] := hl
  have hk_f28 := hts (.fieldLink RX0 28 "ChanceNets$Balance" "size" "I") (by decide +kernel)
  have hin_X0 : ∀ w ∈ u_ws RX0 TX0 3, w ∈ wsX0_determinant := by decide +kernel
  have hk_f11 := hts (.fieldLink RX0 11 "ChanceNets$Balance" "grid" "[[J") (by decide +kernel)
  unfold f_X0_determinant at hB
  refine lv_lconst (v := (1 : Int64)) hx hb dX0_determinant_0 (by decide) ?_
  refine lv_lstore_n (lv' := [(1, .long (1 : Int64)), (0, .ref (ad 28))]) hx hb dX0_determinant_1 rfl hl (by decide) rfl (fun ls hl => ?_)
  refine lv_iconst (v := (0 : Int32)) hx hb dX0_determinant_2 (by decide) ?_
  refine lv_istore_n (lv' := [(3, .int (0 : Int32)), (1, .long (1 : Int64)), (0, .ref (ad 28))]) hx hb dX0_determinant_3 rfl hl (by decide) rfl (fun ls hl => ?_)
  obtain ⟨t33, ht33, hB⟩ := bi_at hB
  refine wl_W (body := fun a => f_X0_determinant_B4 a.1 a.2.1 a.2.2) (Hd := fun a : Int64 × Int32 × Sg => ∀ (H : Heap) (locs : List Loc) (ls : Array Slot), ST dC dI ad cA s a.2.2 H locs → lv_has ls 8 [(0, .ref (ad 28)), (1, .long a.1), (3, .int a.2.1)] → W p l e (RM 0 0) s m args below meth c H locs 0 0 Q (F0 m 4 ls [])) (Ex := fun b : (Sg) ⊕ (Int64 × Sg) => Sum.elim (fun b : Sg => ∀ (H : Heap) (locs : List Loc) (ls : Array Slot), ST dC dI ad cA s b H locs → lv_has ls 8 [(0, .ref (ad 28))] → W p l e (RM 0 0) s m args below meth c H locs 0 0 Q (F0 m 127 ls [])) (fun v => some v = some z) b) ?_ FU _ t33 ht33 ?_ H locs ls hS (lv_sub hl [2, 1, 0] rfl)
  · intro a r4 hB hI4 hE4 H locs ls hS hl
    obtain ⟨x1, x2, σ3⟩ := a
    have hB : f_X0_determinant_B4 x1 x2 σ3 = some r4 := hB
    unfold f_X0_determinant_B4 at hB
    have hS : ST dC dI ad cA s σ3 H locs := hS
    have hl : lv_has ls 8 [(0, .ref (ad 28)), (1, .long x1), (3, .int x2)] := hl
    show W p l e (RM 0 0) s m args below meth c H locs 0 0 Q (F0 m 4 ls [])
    refine lv_iload_n hx hb dX0_determinant_4 rfl (lv_at hl 2 rfl) ?_
    refine lv_iconst (v := (1 : Int32)) hx hb dX0_determinant_5 (by decide) ?_
    refine lv_iadd hx hb dX0_determinant_6 ?_
    refine lv_aload_n hx hb dX0_determinant_7 rfl (lv_at hl 0 rfl) ?_
    refine r_get (v := .int (gI σ3 15)) (C := RX0) (T := TX0) (N := 3) hx hb hts hin_X0 hown hK hS (by decide) e_28 rfl 2 (by decide) hk_f28 rfl rfl dX0_determinant_8 ?_
    refine lv_icmp_ge (tgt := 127) hx hb dX0_determinant_11 (by decide) (fun c4 => ?_) (fun c4 => ?_)
    · have hB := it_t c4 hB
      exact hE4 _ (Option.some.inj hB).symm H locs ls hS (lv_sub hl [0] rfl)
    · have hB := it_f c4 hB
      refine lv_aload_n hx hb dX0_determinant_14 rfl (lv_at hl 0 rfl) ?_
      refine r_get (v := .ref (ad 29)) (C := RX0) (T := TX0) (N := 3) hx hb hts hin_X0 hown hK hS (by decide) e_28 rfl 0 (by decide) hk_f11 rfl rfl dX0_determinant_15 ?_
      refine lv_iload_n hx hb dX0_determinant_18 rfl (lv_at hl 2 rfl) ?_
      obtain ⟨h5, hB⟩ := gd_at hB
      refine r_grid hx hb hK hS h5 dX0_determinant_19 ?_
      have hnh5 := okI_nat h5
      refine lv_iload_n hx hb dX0_determinant_20 rfl (lv_at hl 2 rfl) ?_
      obtain ⟨h6, hB⟩ := gd_at hB
      refine r_lald hx hb hK hS (by rw [lenJ_g hnh5]; exact h6) dX0_determinant_21 ?_
      refine lv_topl (fun x7 ex7 => ?_)
      have hB := vl_at ex7 hB
      refine lv_lstore (lv' := [(4, .long x7), (0, .ref (ad 28)), (1, .long x1), (3, .int x2)]) hx hb dX0_determinant_22 hl (by decide) rfl (fun ls hl => ?_)
      refine lv_lload hx hb dX0_determinant_24 (lv_at hl 0 rfl) ?_
      refine lv_lconst (v := (0 : Int64)) hx hb dX0_determinant_26 (by decide) ?_
      refine W.lcmp hx hb dX0_determinant_27 ?_
      refine lv_if_ne (tgt := 33) hx hb dX0_determinant_28 (by decide) (fun c8 => ?_) (fun c8 => ?_)
      · have hB := it_f (fun q => c8 ((lg_cmp_eq _ _).mpr q)) hB
        refine lv_iload_n hx hb dX0_determinant_33 rfl (lv_at hl 3 rfl) ?_
        refine lv_iconst (v := (1 : Int32)) hx hb dX0_determinant_34 (by decide) ?_
        refine lv_iadd hx hb dX0_determinant_35 ?_
        refine lv_topi (fun x9 ex9 => ?_)
        have hB := vl_at ex9 hB
        refine lv_istore (lv' := [(6, .int x9), (4, .long x7), (0, .ref (ad 28)), (1, .long x1), (3, .int x2)]) hx hb dX0_determinant_36 hl (by decide) rfl (fun ls hl => ?_)
        obtain ⟨t31, ht31, hB⟩ := bi_at hB
        refine wl_W (body := fun a => f_X0_determinant_B38 x1 x2 x7 a.1 a.2) (Hd := fun a : Int32 × Sg => ∀ (H : Heap) (locs : List Loc) (ls : Array Slot), ST dC dI ad cA s a.2 H locs → lv_has ls 8 [(0, .ref (ad 28)), (1, .long x1), (3, .int x2), (4, .long x7), (6, .int a.1)] → W p l e (RM 0 0) s m args below meth c H locs 0 0 Q (F0 m 38 ls [])) (Ex := fun b : Sg => ∀ (H : Heap) (locs : List Loc) (ls : Array Slot), ST dC dI ad cA s b H locs → lv_has ls 8 [(0, .ref (ad 28)), (3, .int x2), (4, .long x7)] → W p l e (RM 0 0) s m args below meth c H locs 0 0 Q (F0 m 118 ls [])) ?_ FU _ t31 ht31 ?_ H locs ls hS (lv_sub hl [2, 3, 4, 1, 0] rfl)
        · intro a r38 hB hI38 hE38 H locs ls hS hl
          obtain ⟨x10, σ11⟩ := a
          have hB : f_X0_determinant_B38 x1 x2 x7 x10 σ11 = some r38 := hB
          unfold f_X0_determinant_B38 at hB
          have hS : ST dC dI ad cA s σ11 H locs := hS
          have hl : lv_has ls 8 [(0, .ref (ad 28)), (1, .long x1), (3, .int x2), (4, .long x7), (6, .int x10)] := hl
          show W p l e (RM 0 0) s m args below meth c H locs 0 0 Q (F0 m 38 ls [])
          refine lv_iload hx hb dX0_determinant_38 (lv_at hl 4 rfl) ?_
          refine lv_aload_n hx hb dX0_determinant_40 rfl (lv_at hl 0 rfl) ?_
          refine r_get (v := .int (gI σ11 15)) (C := RX0) (T := TX0) (N := 3) hx hb hts hin_X0 hown hK hS (by decide) e_28 rfl 2 (by decide) hk_f28 rfl rfl dX0_determinant_41 ?_
          refine lv_icmp_ge (tgt := 118) hx hb dX0_determinant_44 (by decide) (fun c12 => ?_) (fun c12 => ?_)
          · have hB := it_t c12 hB
            exact hE38 _ (Option.some.inj hB).symm H locs ls hS (lv_sub hl [0, 2, 3] rfl)
          · have hB := it_f c12 hB
            refine lv_iload_n hx hb dX0_determinant_47 rfl (lv_at hl 2 rfl) ?_
            refine lv_iconst (v := (1 : Int32)) hx hb dX0_determinant_48 (by decide) ?_
            refine lv_iadd hx hb dX0_determinant_49 ?_
            refine lv_topi (fun x13 ex13 => ?_)
            have hB := vl_at ex13 hB
            refine lv_istore (lv' := [(7, .int x13), (0, .ref (ad 28)), (1, .long x1), (3, .int x2), (4, .long x7), (6, .int x10)]) hx hb dX0_determinant_50 hl (by decide) rfl (fun ls hl => ?_)
            obtain ⟨t29, ht29, hB⟩ := bi_at hB
            refine wl_W (body := fun a => f_X0_determinant_B52 x1 x2 x7 x10 a.1 a.2) (Hd := fun a : Int32 × Sg => ∀ (H : Heap) (locs : List Loc) (ls : Array Slot), ST dC dI ad cA s a.2 H locs → lv_has ls 8 [(0, .ref (ad 28)), (1, .long x1), (3, .int x2), (4, .long x7), (6, .int x10), (7, .int a.1)] → W p l e (RM 0 0) s m args below meth c H locs 0 0 Q (F0 m 52 ls [])) (Ex := fun b : Sg => ∀ (H : Heap) (locs : List Loc) (ls : Array Slot), ST dC dI ad cA s b H locs → lv_has ls 8 [(0, .ref (ad 28)), (1, .long x1), (3, .int x2), (4, .long x7), (6, .int x10)] → W p l e (RM 0 0) s m args below meth c H locs 0 0 Q (F0 m 112 ls [])) ?_ FU _ t29 ht29 ?_ H locs ls hS (lv_sub hl [1, 2, 3, 4, 5, 0] rfl)
            · intro a r52 hB hI52 hE52 H locs ls hS hl
              obtain ⟨x14, σ15⟩ := a
              have hB : f_X0_determinant_B52 x1 x2 x7 x10 x14 σ15 = some r52 := hB
              unfold f_X0_determinant_B52 at hB
              have hS : ST dC dI ad cA s σ15 H locs := hS
              have hl : lv_has ls 8 [(0, .ref (ad 28)), (1, .long x1), (3, .int x2), (4, .long x7), (6, .int x10), (7, .int x14)] := hl
              show W p l e (RM 0 0) s m args below meth c H locs 0 0 Q (F0 m 52 ls [])
              refine lv_iload hx hb dX0_determinant_52 (lv_at hl 5 rfl) ?_
              refine lv_aload_n hx hb dX0_determinant_54 rfl (lv_at hl 0 rfl) ?_
              refine r_get (v := .int (gI σ15 15)) (C := RX0) (T := TX0) (N := 3) hx hb hts hin_X0 hown hK hS (by decide) e_28 rfl 2 (by decide) hk_f28 rfl rfl dX0_determinant_55 ?_
              refine lv_icmp_ge (tgt := 112) hx hb dX0_determinant_58 (by decide) (fun c16 => ?_) (fun c16 => ?_)
              · have hB := it_t c16 hB
                exact hE52 _ (Option.some.inj hB).symm H locs ls hS (lv_sub hl [0, 1, 2, 3, 4] rfl)
              · have hB := it_f c16 hB
                refine lv_aload_n hx hb dX0_determinant_61 rfl (lv_at hl 0 rfl) ?_
                refine r_get (v := .ref (ad 29)) (C := RX0) (T := TX0) (N := 3) hx hb hts hin_X0 hown hK hS (by decide) e_28 rfl 0 (by decide) hk_f11 rfl rfl dX0_determinant_62 ?_
                refine lv_iload hx hb dX0_determinant_65 (lv_at hl 4 rfl) ?_
                obtain ⟨h17, hB⟩ := gd_at hB
                refine r_grid hx hb hK hS h17 dX0_determinant_67 ?_
                have hnh17 := okI_nat h17
                refine lv_iload hx hb dX0_determinant_68 (lv_at hl 5 rfl) ?_
                refine lv_aload_n hx hb dX0_determinant_70 rfl (lv_at hl 0 rfl) ?_
                refine r_get (v := .ref (ad 29)) (C := RX0) (T := TX0) (N := 3) hx hb hts hin_X0 hown hK hS (by decide) e_28 rfl 0 (by decide) hk_f11 rfl rfl dX0_determinant_71 ?_
                refine lv_iload hx hb dX0_determinant_74 (lv_at hl 4 rfl) ?_
                obtain ⟨h18, hB⟩ := gd_at hB
                refine r_grid hx hb hK hS h18 dX0_determinant_76 ?_
                have hnh18 := okI_nat h18
                refine lv_iload hx hb dX0_determinant_77 (lv_at hl 5 rfl) ?_
                obtain ⟨h19, hB⟩ := gd_at hB
                refine r_lald hx hb hK hS (by rw [lenJ_g hnh18]; exact h19) dX0_determinant_79 ?_
                refine lv_lload hx hb dX0_determinant_80 (lv_at hl 3 rfl) ?_
                refine lv_lmul hx hb dX0_determinant_82 ?_
                refine lv_aload_n hx hb dX0_determinant_83 rfl (lv_at hl 0 rfl) ?_
                refine r_get (v := .ref (ad 29)) (C := RX0) (T := TX0) (N := 3) hx hb hts hin_X0 hown hK hS (by decide) e_28 rfl 0 (by decide) hk_f11 rfl rfl dX0_determinant_84 ?_
                refine lv_iload hx hb dX0_determinant_87 (lv_at hl 4 rfl) ?_
                obtain ⟨h20, hB⟩ := gd_at hB
                refine r_grid hx hb hK hS h20 dX0_determinant_89 ?_
                have hnh20 := okI_nat h20
                refine lv_iload_n hx hb dX0_determinant_90 rfl (lv_at hl 2 rfl) ?_
                obtain ⟨h21, hB⟩ := gd_at hB
                refine r_lald hx hb hK hS (by rw [lenJ_g hnh20]; exact h21) dX0_determinant_91 ?_
                refine lv_aload_n hx hb dX0_determinant_92 rfl (lv_at hl 0 rfl) ?_
                refine r_get (v := .ref (ad 29)) (C := RX0) (T := TX0) (N := 3) hx hb hts hin_X0 hown hK hS (by decide) e_28 rfl 0 (by decide) hk_f11 rfl rfl dX0_determinant_93 ?_
                refine lv_iload_n hx hb dX0_determinant_96 rfl (lv_at hl 2 rfl) ?_
                obtain ⟨h22, hB⟩ := gd_at hB
                refine r_grid hx hb hK hS h22 dX0_determinant_97 ?_
                have hnh22 := okI_nat h22
                refine lv_iload hx hb dX0_determinant_98 (lv_at hl 5 rfl) ?_
                obtain ⟨h23, hB⟩ := gd_at hB
                refine r_lald hx hb hK hS (by rw [lenJ_g hnh22]; exact h23) dX0_determinant_100 ?_
                refine lv_lmul hx hb dX0_determinant_101 ?_
                refine lv_lsub hx hb dX0_determinant_102 ?_
                refine lv_lload_n hx hb dX0_determinant_103 rfl (lv_at hl 1 rfl) ?_
                obtain ⟨h24, hB⟩ := gd_at hB
                refine lv_ldiv hx hb dX0_determinant_104 (of_decide_eq_true h24) ?_
                refine lv_topl (fun x25 ex25 => ?_)
                have hB := vl_at ex25 hB
                obtain ⟨h26, hB⟩ := gd_at hB
                refine r_last hx hb hK hS (by rw [lenJ_g hnh17]; exact h26) dX0_determinant_105 (fun H locs hS => ?_)
                obtain ⟨σ27, eσ27⟩ : ∃ t : Sg, t = pJ σ15 (30 + x10.toNatClampNeg) x14.toNatClampNeg x25 := ⟨_, rfl⟩
                rw [← eσ27] at hS
                have hB := vl_at eσ27 hB
                obtain ⟨x28, ex28⟩ : ∃ y : Int32, y = x14 + (1 : Int32) := ⟨_, rfl⟩
                have hB := vl_at ex28 hB
                refine lv_iinc (v := x28) (lv' := [(7, .int x28), (0, .ref (ad 28)), (1, .long x1), (3, .int x2), (4, .long x7), (6, .int x10)]) hx hb dX0_determinant_106 hl (k := 5) rfl (by rw [ex28]; rfl) (by decide) rfl (fun ls hl => ?_)
                refine lv_goto (tgt := 52) hx hb dX0_determinant_109 (by decide) ?_
                exact hI52 _ (Option.some.inj hB).symm H locs ls hS (lv_sub hl [1, 2, 3, 4, 5, 0] rfl)
            · skip
              intro H locs ls hS hl
              have hS : ST dC dI ad cA s t29 H locs := hS
              have hl : lv_has ls 8 [(0, .ref (ad 28)), (1, .long x1), (3, .int x2), (4, .long x7), (6, .int x10)] := hl
              show W p l e (RM 0 0) s m args below meth c H locs 0 0 Q (F0 m 112 ls [])
              obtain ⟨x30, ex30⟩ : ∃ y : Int32, y = x10 + (1 : Int32) := ⟨_, rfl⟩
              have hB := vl_at ex30 hB
              refine lv_iinc (v := x30) (lv' := [(6, .int x30), (0, .ref (ad 28)), (1, .long x1), (3, .int x2), (4, .long x7)]) hx hb dX0_determinant_112 hl (k := 4) rfl (by rw [ex30]; rfl) (by decide) rfl (fun ls hl => ?_)
              refine lv_goto (tgt := 38) hx hb dX0_determinant_115 (by decide) ?_
              exact hI38 _ (Option.some.inj hB).symm H locs ls hS (lv_sub hl [1, 2, 3, 4, 0] rfl)
        · skip
          intro H locs ls hS hl
          have hS : ST dC dI ad cA s t31 H locs := hS
          have hl : lv_has ls 8 [(0, .ref (ad 28)), (3, .int x2), (4, .long x7)] := hl
          show W p l e (RM 0 0) s m args below meth c H locs 0 0 Q (F0 m 118 ls [])
          refine lv_lload hx hb dX0_determinant_118 (lv_at hl 2 rfl) ?_
          refine lv_lstore_n (lv' := [(1, .long x7), (0, .ref (ad 28)), (3, .int x2), (4, .long x7)]) hx hb dX0_determinant_120 rfl hl (by decide) rfl (fun ls hl => ?_)
          obtain ⟨x32, ex32⟩ : ∃ y : Int32, y = x2 + (1 : Int32) := ⟨_, rfl⟩
          have hB := vl_at ex32 hB
          refine lv_iinc (v := x32) (lv' := [(3, .int x32), (1, .long x7), (0, .ref (ad 28)), (4, .long x7)]) hx hb dX0_determinant_121 hl (k := 2) rfl (by rw [ex32]; rfl) (by decide) rfl (fun ls hl => ?_)
          refine lv_goto (tgt := 4) hx hb dX0_determinant_124 (by decide) ?_
          exact hI4 _ (Option.some.inj hB).symm H locs ls hS (lv_sub hl [2, 1, 0] rfl)
      · have hB := it_t ((lg_cmp_eq _ _).mp c8) hB
        refine lv_lconst (v := (0 : Int64)) hx hb dX0_determinant_31 (by decide) ?_
        subst hQ
        exact r_lret hx hb hr hK hS (hE4 _ (Option.some.inj hB).symm) hlocks dX0_determinant_32
  · rcases t33 with t33 | v
    · rw [Sum.elim_inl] at hB
      intro H locs ls hS hl
      have hS : ST dC dI ad cA s t33 H locs := hS
      have hl : lv_has ls 8 [(0, .ref (ad 28))] := hl
      show W p l e (RM 0 0) s m args below meth c H locs 0 0 Q (F0 m 127 ls [])
      refine lv_aload_n hx hb dX0_determinant_127 rfl (lv_at hl 0 rfl) ?_
      refine r_get (v := .int (gI t33 15)) (C := RX0) (T := TX0) (N := 3) hx hb hts hin_X0 hown hK hS (by decide) e_28 rfl 2 (by decide) hk_f28 rfl rfl dX0_determinant_128 ?_
      refine lv_if_le (tgt := 155) hx hb dX0_determinant_131 (by decide) (fun c34 => ?_) (fun c34 => ?_)
      · have hB := it_t c34 hB
        refine lv_lconst (v := (0 : Int64)) hx hb dX0_determinant_155 (by decide) ?_
        subst hQ
        exact r_lret hx hb hr hK hS hB hlocks dX0_determinant_156
      · have hB := it_f c34 hB
        refine lv_aload_n hx hb dX0_determinant_134 rfl (lv_at hl 0 rfl) ?_
        refine r_get (v := .ref (ad 29)) (C := RX0) (T := TX0) (N := 3) hx hb hts hin_X0 hown hK hS (by decide) e_28 rfl 0 (by decide) hk_f11 rfl rfl dX0_determinant_135 ?_
        refine lv_aload_n hx hb dX0_determinant_138 rfl (lv_at hl 0 rfl) ?_
        refine r_get (v := .int (gI t33 15)) (C := RX0) (T := TX0) (N := 3) hx hb hts hin_X0 hown hK hS (by decide) e_28 rfl 2 (by decide) hk_f28 rfl rfl dX0_determinant_139 ?_
        refine lv_iconst (v := (1 : Int32)) hx hb dX0_determinant_142 (by decide) ?_
        refine lv_isub hx hb dX0_determinant_143 ?_
        obtain ⟨h35, hB⟩ := gd_at hB
        refine r_grid hx hb hK hS h35 dX0_determinant_144 ?_
        have hnh35 := okI_nat h35
        refine lv_aload_n hx hb dX0_determinant_145 rfl (lv_at hl 0 rfl) ?_
        refine r_get (v := .int (gI t33 15)) (C := RX0) (T := TX0) (N := 3) hx hb hts hin_X0 hown hK hS (by decide) e_28 rfl 2 (by decide) hk_f28 rfl rfl dX0_determinant_146 ?_
        refine lv_iconst (v := (1 : Int32)) hx hb dX0_determinant_149 (by decide) ?_
        refine lv_isub hx hb dX0_determinant_150 ?_
        obtain ⟨h36, hB⟩ := gd_at hB
        refine r_lald hx hb hK hS (by rw [lenJ_g hnh35]; exact h36) dX0_determinant_151 ?_
        refine lv_goto (tgt := 156) hx hb dX0_determinant_152 (by decide) ?_
        subst hQ
        exact r_lret hx hb hr hK hS hB hlocks dX0_determinant_156
    · exact hB
set_option maxHeartbeats 4000000 in
set_option maxRecDepth 100000 in
theorem c_X0_stepSum (l : Launch) (dC : Nat → ClassId) (dI : Nat → Nat → Nat) (ad : Nat → Nat) (cA : Nat → ClassId) (σ : Sg) (kn : Nat) (hkn : kn < 5) (a2 : Int32) (a3 : Int32) (z : Int64 × Sg) (hB : f_X0_stepSum σ kn a2 a3 = some z) : Kl l dC dI ad cA yX0_stepSum wsX0_stepSum 3 69 [.ref (ad 28), .ref (ad (3 + 4 * kn)), .int a2, .int a3] σ z := by
  refine mk_l (cc := cX0_stepSum) (maxL := 5) (ret := (some .long)) (by decide) rfl (Nat.le_of_ble_eq_true rfl) ?_
  intro p e s m args below meth c Q H locs ls ⟨hx, hb, hr, hml, hown, hts, hlocks, hK, hN⟩ hQ hS hl
  have hown : s.vm.findClass RX0 = some m.cls := hown
  have hl : lv_has ls 5 [(0, .ref (ad 28)), (1, .ref (ad (3 + 4 * kn))), (2, .int a2), (3, .int a3)] := hl
  have hk_f28 := hts (.fieldLink RX0 28 "ChanceNets$Balance" "size" "I") (by decide +kernel)
  have hin_X0 : ∀ w ∈ u_ws RX0 TX0 3, w ∈ wsX0_stepSum := by decide +kernel
  have hk_f11 := hts (.fieldLink RX0 11 "ChanceNets$Balance" "grid" "[[J") (by decide +kernel)
  have hk_f16 := hts (.fieldLink RX0 16 "ChanceNets$Balance" "order" "[I") (by decide +kernel)
  unfold f_X0_stepSum at hB
  refine lv_iload_n hx hb dX0_stepSum_0 rfl (lv_at hl 2 rfl) ?_
  refine lv_iload_n hx hb dX0_stepSum_1 rfl (lv_at hl 3 rfl) ?_
  refine lv_icmp_ne (tgt := 7) hx hb dX0_stepSum_2 (by decide) (fun c1 => ?_) (fun c1 => ?_)
  · have hB := it_f c1 hB
    refine lv_aload_n hx hb dX0_stepSum_7 rfl (lv_at hl 0 rfl) ?_
    refine lv_aload_n hx hb dX0_stepSum_8 rfl (lv_at hl 1 rfl) ?_
    refine lv_iload_n hx hb dX0_stepSum_9 rfl (lv_at hl 3 rfl) ?_
    refine lv_iload_n hx hb dX0_stepSum_10 rfl (lv_at hl 2 rfl) ?_
    obtain ⟨t2, ht2, hB⟩ := bi_at hB
    refine r_Vv ⟨hx, hb, hml, hown, hts⟩ (c_X0_load l dC dI ad cA σ kn hkn a3 a2 t2 ht2) (cwV 3 hts gX0_stepSum_X0_load rfl rfl rfl (by decide +kernel) ⟨Nat.le_of_ble_eq_true rfl, Nat.le_of_ble_eq_true rfl⟩) hK hN hS (by decide) e_28 rfl rfl hl.1 rfl (Nat.le_of_ble_eq_true rfl) dX0_stepSum_11 ⟨Nat.le_refl _, Nat.le_refl _⟩ (fun H locs hS => ?_)
    refine lv_iconst (v := (0 : Int32)) hx hb dX0_stepSum_14 (by decide) ?_
    refine lv_istore (lv' := [(4, .int (0 : Int32)), (0, .ref (ad 28)), (1, .ref (ad (3 + 4 * kn))), (2, .int a2), (3, .int a3)]) hx hb dX0_stepSum_15 hl (by decide) rfl (fun ls hl => ?_)
    obtain ⟨t12, ht12, hB⟩ := bi_at hB
    refine wl_W (body := fun a => f_X0_stepSum_B17 kn a.1 a.2) (Hd := fun a : Int32 × Sg => ∀ (H : Heap) (locs : List Loc) (ls : Array Slot), ST dC dI ad cA s a.2 H locs → lv_has ls 5 [(0, .ref (ad 28)), (1, .ref (ad (3 + 4 * kn))), (4, .int a.1)] → W p l e (RM 3 69) s m args below meth c H locs 0 0 Q (F0 m 17 ls [])) (Ex := fun b : Sg => ∀ (H : Heap) (locs : List Loc) (ls : Array Slot), ST dC dI ad cA s b H locs → lv_has ls 5 [(0, .ref (ad 28))] → W p l e (RM 3 69) s m args below meth c H locs 0 0 Q (F0 m 58 ls [])) ?_ FU _ t12 ht12 ?_ H locs ls hS (lv_sub hl [1, 2, 0] rfl)
    · intro a r17 hB hI17 hE17 H locs ls hS hl
      obtain ⟨x3, σ4⟩ := a
      have hB : f_X0_stepSum_B17 kn x3 σ4 = some r17 := hB
      unfold f_X0_stepSum_B17 at hB
      have hS : ST dC dI ad cA s σ4 H locs := hS
      have hl : lv_has ls 5 [(0, .ref (ad 28)), (1, .ref (ad (3 + 4 * kn))), (4, .int x3)] := hl
      show W p l e (RM 3 69) s m args below meth c H locs 0 0 Q (F0 m 17 ls [])
      refine lv_iload hx hb dX0_stepSum_17 (lv_at hl 2 rfl) ?_
      refine lv_aload_n hx hb dX0_stepSum_19 rfl (lv_at hl 0 rfl) ?_
      refine r_get (v := .int (gI σ4 15)) (C := RX0) (T := TX0) (N := 3) hx hb hts hin_X0 hown hK hS (by decide) e_28 rfl 2 (by decide) hk_f28 rfl rfl dX0_stepSum_20 ?_
      refine lv_icmp_ge (tgt := 58) hx hb dX0_stepSum_23 (by decide) (fun c5 => ?_) (fun c5 => ?_)
      · have hB := it_t c5 hB
        exact hE17 _ (Option.some.inj hB).symm H locs ls hS (lv_sub hl [0] rfl)
      · have hB := it_f c5 hB
        refine lv_aload_n hx hb dX0_stepSum_26 rfl (lv_at hl 0 rfl) ?_
        refine r_get (v := .ref (ad 29)) (C := RX0) (T := TX0) (N := 3) hx hb hts hin_X0 hown hK hS (by decide) e_28 rfl 0 (by decide) hk_f11 rfl rfl dX0_stepSum_27 ?_
        refine lv_iload hx hb dX0_stepSum_30 (lv_at hl 2 rfl) ?_
        obtain ⟨h6, hB⟩ := gd_at hB
        refine r_grid hx hb hK hS h6 dX0_stepSum_32 ?_
        have hnh6 := okI_nat h6
        refine lv_aload_n hx hb dX0_stepSum_33 rfl (lv_at hl 0 rfl) ?_
        refine r_get (v := .int (gI σ4 15)) (C := RX0) (T := TX0) (N := 3) hx hb hts hin_X0 hown hK hS (by decide) e_28 rfl 2 (by decide) hk_f28 rfl rfl dX0_stepSum_34 ?_
        refine lv_iconst (v := (1 : Int32)) hx hb dX0_stepSum_37 (by decide) ?_
        refine lv_isub hx hb dX0_stepSum_38 ?_
        refine lv_aload_n hx hb dX0_stepSum_39 rfl (lv_at hl 1 rfl) ?_
        refine lv_aload_n hx hb dX0_stepSum_40 rfl (lv_at hl 0 rfl) ?_
        refine r_get (v := .ref (ad 35)) (C := RX0) (T := TX0) (N := 3) hx hb hts hin_X0 hown hK hS (by decide) e_28 rfl 1 (by decide) hk_f16 rfl rfl dX0_stepSum_41 ?_
        refine lv_iload hx hb dX0_stepSum_44 (lv_at hl 2 rfl) ?_
        obtain ⟨h7, hB⟩ := gd_at hB
        refine r_iald hx hb hK hS h7 dX0_stepSum_46 ?_
        obtain ⟨t8, ht8, hB⟩ := bi_at hB
        refine r_ViP ⟨hx, hb, hml, hown, hts⟩ (c_X1_degree l dC dI ad cA σ4 kn hkn (gA σ4 35 x3.toNatClampNeg) t8 ht8) (cwV 1 hts gX0_stepSum_X1_degree rfl rfl rfl (by decide +kernel) ⟨Nat.le_of_ble_eq_true rfl, Nat.le_of_ble_eq_true rfl⟩) hK hN hS (by omega) (e_net (k := kn) hkn) rfl rfl hl.1 rfl (Nat.le_of_ble_eq_true rfl) dX0_stepSum_47 ⟨Nat.le_refl _, Nat.le_refl _⟩ (fun H locs hS => ?_)
        refine lv_i2l hx hb dX0_stepSum_50 rfl ?_
        obtain ⟨h9, hB⟩ := gd_at hB
        refine r_last hx hb hK hS (by rw [lenJ_g hnh6]; exact h9) dX0_stepSum_51 (fun H locs hS => ?_)
        obtain ⟨σ10, eσ10⟩ : ∃ t : Sg, t = pJ σ4 (30 + x3.toNatClampNeg) ((gI σ4 15) - (1 : Int32)).toNatClampNeg t8.toInt64 := ⟨_, rfl⟩
        rw [← eσ10] at hS
        have hB := vl_at eσ10 hB
        obtain ⟨x11, ex11⟩ : ∃ y : Int32, y = x3 + (1 : Int32) := ⟨_, rfl⟩
        have hB := vl_at ex11 hB
        refine lv_iinc (v := x11) (lv' := [(4, .int x11), (0, .ref (ad 28)), (1, .ref (ad (3 + 4 * kn)))]) hx hb dX0_stepSum_52 hl (k := 2) rfl (by rw [ex11]; rfl) (by decide) rfl (fun ls hl => ?_)
        refine lv_goto (tgt := 17) hx hb dX0_stepSum_55 (by decide) ?_
        exact hI17 _ (Option.some.inj hB).symm H locs ls hS (lv_sub hl [1, 2, 0] rfl)
    · skip
      intro H locs ls hS hl
      have hS : ST dC dI ad cA s t12 H locs := hS
      have hl : lv_has ls 5 [(0, .ref (ad 28))] := hl
      show W p l e (RM 3 69) s m args below meth c H locs 0 0 Q (F0 m 58 ls [])
      refine lv_aload_n hx hb dX0_stepSum_58 rfl (lv_at hl 0 rfl) ?_
      obtain ⟨t13, ht13, hB⟩ := bi_at hB
      refine r_Vl ⟨hx, hb, hml, hown, hts⟩ (c_X0_determinant l dC dI ad cA t12 t13 ht13) (cwV 0 hts gX0_stepSum_X0_determinant rfl rfl rfl (by decide +kernel) ⟨Nat.le_of_ble_eq_true rfl, Nat.le_of_ble_eq_true rfl⟩) hK hN hS (by decide) e_28 rfl rfl hl.1 rfl (Nat.le_of_ble_eq_true rfl) dX0_stepSum_59 ⟨Nat.le_refl _, Nat.le_refl _⟩ (fun H locs hS => ?_)
      subst hQ
      exact r_lret hx hb hr hK hS hB hlocks dX0_stepSum_62
  · have hB := it_t c1 hB
    refine lv_lconst (v := (0 : Int64)) hx hb dX0_stepSum_5 (by decide) ?_
    subst hQ
    exact r_lret hx hb hr hK hS hB hlocks dX0_stepSum_6
set_option maxHeartbeats 4000000 in
set_option maxRecDepth 100000 in
theorem c_X0_treeSum (l : Launch) (dC : Nat → ClassId) (dI : Nat → Nat → Nat) (ad : Nat → Nat) (cA : Nat → ClassId) (σ : Sg) (kn : Nat) (hkn : kn < 5) (z : Int64 × Sg) (hB : f_X0_treeSum σ kn = some z) : Kl l dC dI ad cA yX0_treeSum wsX0_treeSum 3 69 [.ref (ad 28), .ref (ad (3 + 4 * kn))] σ z := by
  refine mk_l (cc := cX0_treeSum) (maxL := 2) (ret := (some .long)) (by decide) rfl (Nat.le_of_ble_eq_true rfl) ?_
  intro p e s m args below meth c Q H locs ls ⟨hx, hb, hr, hml, hown, hts, hlocks, hK, hN⟩ hQ hS hl
  have hown : s.vm.findClass RX0 = some m.cls := hown
  have hl : lv_has ls 2 [(0, .ref (ad 28)), (1, .ref (ad (3 + 4 * kn)))] := hl
  unfold f_X0_treeSum at hB
  refine lv_aload_n hx hb dX0_treeSum_0 rfl (lv_at hl 0 rfl) ?_
  refine lv_aload_n hx hb dX0_treeSum_1 rfl (lv_at hl 1 rfl) ?_
  refine lv_iconst (v := (0 : Int32)) hx hb dX0_treeSum_2 (by decide) ?_
  refine lv_iconst (v := (1 : Int32)) hx hb dX0_treeSum_3 (by decide) ?_
  obtain ⟨t1, ht1, hB⟩ := bi_at hB
  refine r_Vv ⟨hx, hb, hml, hown, hts⟩ (c_X0_load l dC dI ad cA σ kn hkn (0 : Int32) (1 : Int32) t1 ht1) (cwV 3 hts gX0_treeSum_X0_load rfl rfl rfl (by decide +kernel) ⟨Nat.le_of_ble_eq_true rfl, Nat.le_of_ble_eq_true rfl⟩) hK hN hS (by decide) e_28 rfl rfl hl.1 rfl (Nat.le_of_ble_eq_true rfl) dX0_treeSum_4 ⟨Nat.le_refl _, Nat.le_refl _⟩ (fun H locs hS => ?_)
  refine lv_aload_n hx hb dX0_treeSum_7 rfl (lv_at hl 0 rfl) ?_
  obtain ⟨t2, ht2, hB⟩ := bi_at hB
  refine r_Vl ⟨hx, hb, hml, hown, hts⟩ (c_X0_determinant l dC dI ad cA t1 t2 ht2) (cwV 0 hts gX0_treeSum_X0_determinant rfl rfl rfl (by decide +kernel) ⟨Nat.le_of_ble_eq_true rfl, Nat.le_of_ble_eq_true rfl⟩) hK hN hS (by decide) e_28 rfl rfl hl.1 rfl (Nat.le_of_ble_eq_true rfl) dX0_treeSum_8 ⟨Nat.le_refl _, Nat.le_refl _⟩ (fun H locs hS => ?_)
  subst hQ
  exact r_lret hx hb hr hK hS hB hlocks dX0_treeSum_11
set_option maxHeartbeats 4000000 in
set_option maxRecDepth 100000 in
theorem c_X6_commonDivisor (l : Launch) (dC : Nat → ClassId) (dI : Nat → Nat → Nat) (ad : Nat → Nat) (cA : Nat → ClassId) (σ : Sg) (a1 : Int64) (a2 : Int64) (z : Int64) (hB : f_X6_commonDivisor a1 a2 = some z) : Kl l dC dI ad cA yX6_commonDivisor wsX6_commonDivisor 1 21 [.long a1, .long a2] σ (z, σ) := by
  refine mk_l (cc := cX6_commonDivisor) (maxL := 11) (ret := (some .long)) (by decide) rfl (Nat.le_of_ble_eq_true rfl) ?_
  intro p e s m args below meth c Q H locs ls ⟨hx, hb, hr, hml, hown, hts, hlocks, hK, hN⟩ hQ hS hl
  have hown : s.vm.findClass RX6 = some m.cls := hown
  have hl : lv_has ls 11 [(0, .long a1), (2, .long a2)] := hl
  have hk_m243 := hts (.methodLink RX6 243 Lib.MathLoose.abs_long.x) (by decide +kernel)
  have hk_s243 := hts (.static Lib.MathLoose.abs_long.x) (by decide +kernel)
  have hk_iMath := hts (.initialized "java/lang/Math") (by decide +kernel)
  have hk_o243 := hts (.code Lib.MathLoose.abs_long.x Lib.MathLoose.abs_long.code 2 (some .long)) (by decide +kernel)
  unfold f_X6_commonDivisor at hB
  refine lv_lload_n hx hb dX6_commonDivisor_0 rfl (lv_at hl 0 rfl) ?_
  refine va_mabs_long hx hb (hml.trans hl.1.symm) hown hk_m243 hk_s243 hk_iMath hk_o243 (Nat.le_of_ble_eq_true rfl) (Nat.le_of_ble_eq_true rfl) (Nat.zero_le _) (Nat.zero_le _) dX6_commonDivisor_1 ?_
  refine lv_topl (fun x1 ex1 => ?_)
  have hB := vl_at ex1 hB
  refine lv_lstore (lv' := [(4, .long x1), (0, .long a1), (2, .long a2)]) hx hb dX6_commonDivisor_4 hl (by decide) rfl (fun ls hl => ?_)
  refine lv_lload_n hx hb dX6_commonDivisor_6 rfl (lv_at hl 2 rfl) ?_
  refine va_mabs_long hx hb (hml.trans hl.1.symm) hown hk_m243 hk_s243 hk_iMath hk_o243 (Nat.le_of_ble_eq_true rfl) (Nat.le_of_ble_eq_true rfl) (Nat.zero_le _) (Nat.zero_le _) dX6_commonDivisor_7 ?_
  refine lv_topl (fun x2 ex2 => ?_)
  have hB := vl_at ex2 hB
  refine lv_lstore (lv' := [(6, .long x2), (4, .long x1), (0, .long a1), (2, .long a2)]) hx hb dX6_commonDivisor_10 hl (by decide) rfl (fun ls hl => ?_)
  refine lv_iconst (v := (0 : Int32)) hx hb dX6_commonDivisor_12 (by decide) ?_
  refine lv_istore (lv' := [(8, .int (0 : Int32)), (6, .long x2), (4, .long x1), (0, .long a1), (2, .long a2)]) hx hb dX6_commonDivisor_13 hl (by decide) rfl (fun ls hl => ?_)
  obtain ⟨t11, ht11, hB⟩ := bi_at hB
  refine wl_W (body := fun a => f_X6_commonDivisor_B15 a.1 a.2.1 a.2.2) (Hd := fun a : Int64 × Int64 × Int32 => ∀ (H : Heap) (locs : List Loc) (ls : Array Slot), ST dC dI ad cA s σ H locs → lv_has ls 11 [(4, .long a.1), (6, .long a.2.1), (8, .int a.2.2)] → W p l e (RM 1 21) s m args below meth c H locs 0 0 Q (F0 m 15 ls [])) (Ex := fun b : Int64 => ∀ (H : Heap) (locs : List Loc) (ls : Array Slot), ST dC dI ad cA s σ H locs → lv_has ls 11 [(4, .long b)] → W p l e (RM 1 21) s m args below meth c H locs 0 0 Q (F0 m 50 ls [])) ?_ FU _ t11 ht11 ?_ H locs ls hS (lv_sub hl [2, 1, 0] rfl)
  · intro a r15 hB hI15 hE15 H locs ls hS hl
    obtain ⟨x3, x4, x5⟩ := a
    have hB : f_X6_commonDivisor_B15 x3 x4 x5 = some r15 := hB
    unfold f_X6_commonDivisor_B15 at hB
    have hS : ST dC dI ad cA s σ H locs := hS
    have hl : lv_has ls 11 [(4, .long x3), (6, .long x4), (8, .int x5)] := hl
    show W p l e (RM 1 21) s m args below meth c H locs 0 0 Q (F0 m 15 ls [])
    refine lv_iload hx hb dX6_commonDivisor_15 (lv_at hl 2 rfl) ?_
    refine lv_bipush (v := (100 : Int32)) hx hb dX6_commonDivisor_17 (by decide) ?_
    refine lv_icmp_ge (tgt := 50) hx hb dX6_commonDivisor_19 (by decide) (fun c6 => ?_) (fun c6 => ?_)
    · have hB := it_t c6 hB
      exact hE15 _ (Option.some.inj hB).symm H locs ls hS (lv_sub hl [0] rfl)
    · have hB := it_f c6 hB
      refine lv_lload hx hb dX6_commonDivisor_22 (lv_at hl 1 rfl) ?_
      refine lv_lconst (v := (0 : Int64)) hx hb dX6_commonDivisor_24 (by decide) ?_
      refine W.lcmp hx hb dX6_commonDivisor_25 ?_
      refine lv_if_eq (tgt := 50) hx hb dX6_commonDivisor_26 (by decide) (fun c7 => ?_) (fun c7 => ?_)
      · have hB := it_t ((lg_cmp_eq _ _).mp c7) hB
        exact hE15 _ (Option.some.inj hB).symm H locs ls hS (lv_sub hl [0] rfl)
      · have hB := it_f (fun q => c7 ((lg_cmp_eq _ _).mpr q)) hB
        refine lv_lload hx hb dX6_commonDivisor_29 (lv_at hl 0 rfl) ?_
        refine lv_lload hx hb dX6_commonDivisor_31 (lv_at hl 1 rfl) ?_
        obtain ⟨h8, hB⟩ := gd_at hB
        refine lv_lrem hx hb dX6_commonDivisor_33 (of_decide_eq_true h8) ?_
        refine lv_topl (fun x9 ex9 => ?_)
        have hB := vl_at ex9 hB
        refine lv_lstore (lv' := [(9, .long x9), (4, .long x3), (6, .long x4), (8, .int x5)]) hx hb dX6_commonDivisor_34 hl (by decide) rfl (fun ls hl => ?_)
        refine lv_lload hx hb dX6_commonDivisor_36 (lv_at hl 2 rfl) ?_
        refine lv_lstore (lv' := [(4, .long x4), (9, .long x9), (6, .long x4), (8, .int x5)]) hx hb dX6_commonDivisor_38 hl (by decide) rfl (fun ls hl => ?_)
        refine lv_lload hx hb dX6_commonDivisor_40 (lv_at hl 1 rfl) ?_
        refine lv_lstore (lv' := [(6, .long x9), (4, .long x4), (9, .long x9), (8, .int x5)]) hx hb dX6_commonDivisor_42 hl (by decide) rfl (fun ls hl => ?_)
        obtain ⟨x10, ex10⟩ : ∃ y : Int32, y = x5 + (1 : Int32) := ⟨_, rfl⟩
        have hB := vl_at ex10 hB
        refine lv_iinc (v := x10) (lv' := [(8, .int x10), (6, .long x9), (4, .long x4), (9, .long x9)]) hx hb dX6_commonDivisor_44 hl (k := 3) rfl (by rw [ex10]; rfl) (by decide) rfl (fun ls hl => ?_)
        refine lv_goto (tgt := 15) hx hb dX6_commonDivisor_47 (by decide) ?_
        exact hI15 _ (Option.some.inj hB).symm H locs ls hS (lv_sub hl [2, 1, 0] rfl)
  · skip
    intro H locs ls hS hl
    have hS : ST dC dI ad cA s σ H locs := hS
    have hl : lv_has ls 11 [(4, .long t11)] := hl
    show W p l e (RM 1 21) s m args below meth c H locs 0 0 Q (F0 m 50 ls [])
    refine lv_lload hx hb dX6_commonDivisor_50 (lv_at hl 0 rfl) ?_
    refine lv_lconst (v := (0 : Int64)) hx hb dX6_commonDivisor_52 (by decide) ?_
    refine W.lcmp hx hb dX6_commonDivisor_53 ?_
    refine lv_if_le (tgt := 62) hx hb dX6_commonDivisor_54 (by decide) (fun c12 => ?_) (fun c12 => ?_)
    · have hB := it_t ((lg_cmp_le _ _).mp c12) hB
      refine lv_lconst (v := (1 : Int64)) hx hb dX6_commonDivisor_62 (by decide) ?_
      subst hQ
      exact r_lret hx hb hr hK hS (pz hB) hlocks dX6_commonDivisor_63
    · have hB := it_f (fun q => c12 ((lg_cmp_le _ _).mpr q)) hB
      refine lv_lload hx hb dX6_commonDivisor_57 (lv_at hl 0 rfl) ?_
      refine lv_goto (tgt := 63) hx hb dX6_commonDivisor_59 (by decide) ?_
      subst hQ
      exact r_lret hx hb hr hK hS (pz hB) hlocks dX6_commonDivisor_63
set_option maxHeartbeats 4000000 in
set_option maxRecDepth 100000 in
theorem c_X6_partOf (l : Launch) (dC : Nat → ClassId) (dI : Nat → Nat → Nat) (ad : Nat → Nat) (cA : Nat → ClassId) (σ : Sg) (a1 : Int64) (a2 : Int64) (a3 : Int32) (z : Int64) (hB : f_X6_partOf a1 a2 a3 = some z) : Kl l dC dI ad cA yX6_partOf wsX6_partOf 2 51 [.long a1, .long a2, .int a3] σ (z, σ) := by
  refine mk_l (cc := cX6_partOf) (maxL := 7) (ret := (some .long)) (by decide) rfl (Nat.le_of_ble_eq_true rfl) ?_
  intro p e s m args below meth c Q H locs ls ⟨hx, hb, hr, hml, hown, hts, hlocks, hK, hN⟩ hQ hS hl
  have hown : s.vm.findClass RX6 = some m.cls := hown
  have hl : lv_has ls 7 [(0, .long a1), (2, .long a2), (4, .int a3)] := hl
  unfold f_X6_partOf at hB
  refine lv_lload_n hx hb dX6_partOf_0 rfl (lv_at hl 0 rfl) ?_
  refine lv_lload_n hx hb dX6_partOf_1 rfl (lv_at hl 1 rfl) ?_
  obtain ⟨t1, ht1, hB⟩ := bi_at hB
  refine r_SlP ⟨hx, hb, hml, hown, hts⟩ (c_X6_commonDivisor l dC dI ad cA σ a1 a2 t1 ht1) (va_cwS 2 hts gX6_partOf_X6_commonDivisor rfl rfl rfl (by decide +kernel) ⟨Nat.le_of_ble_eq_true rfl, Nat.le_of_ble_eq_true rfl⟩) hK hN hS rfl hl.1 rfl (Nat.le_of_ble_eq_true rfl) dX6_partOf_2 ⟨Nat.le_refl _, Nat.le_refl _⟩ (fun H locs hS => ?_)
  refine lv_lstore (lv' := [(5, .long t1), (0, .long a1), (2, .long a2), (4, .int a3)]) hx hb dX6_partOf_5 hl (by decide) rfl (fun ls hl => ?_)
  refine lv_iload hx hb dX6_partOf_7 (lv_at hl 3 rfl) ?_
  refine lv_if_ne (tgt := 16) hx hb dX6_partOf_9 (by decide) (fun c2 => ?_) (fun c2 => ?_)
  · have hB := it_f c2 hB
    refine lv_lload_n hx hb dX6_partOf_16 rfl (lv_at hl 2 rfl) ?_
    refine lv_lload hx hb dX6_partOf_17 (lv_at hl 0 rfl) ?_
    obtain ⟨h3, hB⟩ := gd_at hB
    refine lv_ldiv hx hb dX6_partOf_19 (of_decide_eq_true h3) ?_
    subst hQ
    exact r_lret hx hb hr hK hS (pz hB) hlocks dX6_partOf_20
  · have hB := it_t c2 hB
    refine lv_lload_n hx hb dX6_partOf_12 rfl (lv_at hl 1 rfl) ?_
    refine lv_goto (tgt := 17) hx hb dX6_partOf_13 (by decide) ?_
    refine lv_lload hx hb dX6_partOf_17 (lv_at hl 0 rfl) ?_
    obtain ⟨h4, hB⟩ := gd_at hB
    refine lv_ldiv hx hb dX6_partOf_19 (of_decide_eq_true h4) ?_
    subst hQ
    exact r_lret hx hb hr hK hS (pz hB) hlocks dX6_partOf_20
