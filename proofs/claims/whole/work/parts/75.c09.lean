set_option maxHeartbeats 4000000 in
set_option maxRecDepth 100000 in
theorem c_X7_apart (l : Launch) (dC : Nat → ClassId) (dI : Nat → Nat → Nat) (ad : Nat → Nat) (cA : Nat → ClassId) (σ : Sg) (a1 : Int32) (a2 : Int32) (a3 : Int32) (z : Int64 × Sg) (hB : f_X7_apart σ a1 a2 a3 = some z) : Kl l dC dI ad cA yX7_apart wsX7_apart 3 69 [.ref (ad 45), .int a1, .int a2, .int a3] σ z := by
  refine mk_l (cc := cX7_apart) (maxL := 8) (ret := (some .long)) (by decide) rfl (Nat.le_of_ble_eq_true rfl) ?_
  intro p e s m args below meth c Q H locs ls ⟨hx, hb, hr, hml, hown, hts, hlocks, hK, hN⟩ hQ hS hl
  have hown : s.vm.findClass RX7 = some m.cls := hown
  have hl : lv_has ls 8 [(0, .ref (ad 45)), (1, .int a1), (2, .int a2), (3, .int a3)] := hl
  have hk_f31 := hts (.fieldLink RX7 31 "ChanceNetsModel" "part" "[I") (by decide +kernel)
  have hin_X7 : ∀ w ∈ u_ws RX7 TX7 19, w ∈ wsX7_apart := by decide +kernel
  unfold f_X7_apart at hB
  refine lv_lconst (v := (0 : Int64)) hx hb dX7_apart_0 (by decide) ?_
  refine lv_lstore (lv' := [(4, .long (0 : Int64)), (0, .ref (ad 45)), (1, .int a1), (2, .int a2), (3, .int a3)]) hx hb dX7_apart_1 hl (by decide) rfl (fun ls hl => ?_)
  refine lv_iconst (v := (0 : Int32)) hx hb dX7_apart_3 (by decide) ?_
  refine lv_istore (lv' := [(6, .int (0 : Int32)), (4, .long (0 : Int64)), (0, .ref (ad 45)), (1, .int a1), (2, .int a2), (3, .int a3)]) hx hb dX7_apart_4 hl (by decide) rfl (fun ls hl => ?_)
  obtain ⟨t22, ht22, hB⟩ := bi_at hB
  refine wl_W (body := fun a => f_X7_apart_B6 a1 a2 a3 a.1 a.2.1 a.2.2) (Hd := fun a : Int64 × Int32 × Sg => ∀ (H : Heap) (locs : List Loc) (ls : Array Slot), ST dC dI ad cA s a.2.2 H locs → lv_has ls 8 [(0, .ref (ad 45)), (1, .int a1), (2, .int a2), (3, .int a3), (4, .long a.1), (6, .int a.2.1)] → W p l e (RM 3 69) s m args below meth c H locs 0 0 Q (F0 m 6 ls [])) (Ex := fun b : Int64 × Sg => ∀ (H : Heap) (locs : List Loc) (ls : Array Slot), ST dC dI ad cA s b.2 H locs → lv_has ls 8 [(4, .long b.1)] → W p l e (RM 3 69) s m args below meth c H locs 0 0 Q (F0 m 96 ls [])) ?_ FU _ t22 ht22 ?_ H locs ls hS (lv_sub hl [2, 3, 4, 5, 1, 0] rfl)
  · intro a r6 hB hI6 hE6 H locs ls hS hl
    obtain ⟨x1, x2, σ3⟩ := a
    have hB : f_X7_apart_B6 a1 a2 a3 x1 x2 σ3 = some r6 := hB
    unfold f_X7_apart_B6 at hB
    have hS : ST dC dI ad cA s σ3 H locs := hS
    have hl : lv_has ls 8 [(0, .ref (ad 45)), (1, .int a1), (2, .int a2), (3, .int a3), (4, .long x1), (6, .int x2)] := hl
    show W p l e (RM 3 69) s m args below meth c H locs 0 0 Q (F0 m 6 ls [])
    refine lv_iload hx hb dX7_apart_6 (lv_at hl 5 rfl) ?_
    refine lv_iconst (v := (1 : Int32)) hx hb dX7_apart_8 (by decide) ?_
    refine lv_aload_n hx hb dX7_apart_9 rfl (lv_at hl 0 rfl) ?_
    obtain ⟨t4, ht4, hB⟩ := bi_at hB
    refine r_ViP ⟨hx, hb, hml, hown, hts⟩ (c_X7_lines l dC dI ad cA σ3 t4 ht4) (cwV 0 hts gX7_apart_X7_lines rfl rfl rfl (by decide +kernel) ⟨Nat.le_of_ble_eq_true rfl, Nat.le_of_ble_eq_true rfl⟩) hK hN hS (by decide) e_45 rfl rfl hl.1 rfl (Nat.le_of_ble_eq_true rfl) dX7_apart_10 ⟨Nat.le_refl _, Nat.le_refl _⟩ (fun H locs hS => ?_)
    refine lv_ishl hx hb dX7_apart_13 ?_
    refine lv_icmp_ge (tgt := 96) hx hb dX7_apart_14 (by decide) (fun c5 => ?_) (fun c5 => ?_)
    · have hB := it_t c5 hB
      exact hE6 _ (Option.some.inj hB).symm H locs ls hS (lv_sub hl [4] rfl)
    · have hB := it_f c5 hB
      refine lv_aload_n hx hb dX7_apart_17 rfl (lv_at hl 0 rfl) ?_
      refine lv_iload hx hb dX7_apart_18 (lv_at hl 5 rfl) ?_
      refine lv_iconst (v := (2 : Int32)) hx hb dX7_apart_20 (by decide) ?_
      refine lv_bipush (v := (-9 : Int32)) hx hb dX7_apart_21 (by decide) ?_
      obtain ⟨t6, ht6, hB⟩ := bi_at hB
      refine r_Vi ⟨hx, hb, hml, hown, hts⟩ (c_X7_isForest l dC dI ad cA σ3 x2 (2 : Int32) (-9 : Int32) t6 ht6) (cwV 3 hts gX7_apart_X7_isForest rfl rfl rfl (by decide +kernel) ⟨Nat.le_of_ble_eq_true rfl, Nat.le_of_ble_eq_true rfl⟩) hK hN hS (by decide) e_45 rfl rfl hl.1 rfl (Nat.le_of_ble_eq_true rfl) dX7_apart_23 ⟨Nat.le_refl _, Nat.le_refl _⟩ (fun H locs hS => ?_)
      have hJ49 : ∀ (x7 : Int32) (H : Heap) (locs : List Loc) (ls : Array Slot), f_X7_apart_J49 a1 a2 x1 x2 t6 x7 = some r6 → ST dC dI ad cA s t6.2 H locs → lv_has ls 8 [(0, .ref (ad 45)), (1, .int a1), (2, .int a2), (3, .int a3), (4, .long x1), (6, .int x2)] → W p l e (RM 3 69) s m args below meth c H locs 0 0 Q (F0 m 49 ls [.int x7]) := by
        intro x7 H locs ls hB hS hl
        unfold f_X7_apart_J49 at hB
        refine lv_istore (lv' := [(7, .int x7), (0, .ref (ad 45)), (1, .int a1), (2, .int a2), (3, .int a3), (4, .long x1), (6, .int x2)]) hx hb dX7_apart_49 hl (by decide) rfl (fun ls hl => ?_)
        refine lv_lload hx hb dX7_apart_51 (lv_at hl 5 rfl) ?_
        refine lv_iload hx hb dX7_apart_53 (lv_at hl 0 rfl) ?_
        have hJ86 : ∀ (H : Heap) (locs : List Loc) (ls : Array Slot), f_X7_apart_J86 x1 x2 t6 = some r6 → ST dC dI ad cA s t6.2 H locs → lv_has ls 8 [(0, .ref (ad 45)), (1, .int a1), (2, .int a2), (3, .int a3), (6, .int x2)] → W p l e (RM 3 69) s m args below meth c H locs 0 0 Q (F0 m 86 ls [.long x1]) := by
          intro H locs ls hB hS hl
          unfold f_X7_apart_J86 at hB
          refine lv_lconst (v := (0 : Int64)) hx hb dX7_apart_86 (by decide) ?_
          refine lv_ladd hx hb dX7_apart_87 ?_
          refine lv_topl (fun x8 ex8 => ?_)
          have hB := vl_at ex8 hB
          refine lv_lstore (lv' := [(4, .long x8), (0, .ref (ad 45)), (1, .int a1), (2, .int a2), (3, .int a3), (6, .int x2)]) hx hb dX7_apart_88 hl (by decide) rfl (fun ls hl => ?_)
          obtain ⟨x9, ex9⟩ : ∃ y : Int32, y = x2 + (1 : Int32) := ⟨_, rfl⟩
          have hB := vl_at ex9 hB
          refine lv_iinc (v := x9) (lv' := [(6, .int x9), (4, .long x8), (0, .ref (ad 45)), (1, .int a1), (2, .int a2), (3, .int a3)]) hx hb dX7_apart_90 hl (k := 5) rfl (by rw [ex9]; rfl) (by decide) rfl (fun ls hl => ?_)
          refine lv_goto (tgt := 6) hx hb dX7_apart_93 (by decide) ?_
          exact hI6 _ (Option.some.inj hB).symm H locs ls hS (lv_sub hl [2, 3, 4, 5, 1, 0] rfl)
        refine lv_if_eq (tgt := 86) hx hb dX7_apart_55 (by decide) (fun c10 => ?_) (fun c10 => ?_)
        · have hB := it_t c10 hB
          exact hJ86  H locs ls hB hS (lv_sub hl [1, 2, 3, 4, 6] rfl)
        · have hB := it_f c10 hB
          refine lv_iload_n hx hb dX7_apart_58 rfl (lv_at hl 2 rfl) ?_
          have hJ77 : ∀ (H : Heap) (locs : List Loc) (ls : Array Slot), f_X7_apart_J77 x1 x2 t6 = some r6 → ST dC dI ad cA s t6.2 H locs → lv_has ls 8 [(0, .ref (ad 45)), (1, .int a1), (2, .int a2), (3, .int a3), (6, .int x2)] → W p l e (RM 3 69) s m args below meth c H locs 0 0 Q (F0 m 77 ls [.long x1]) := by
            intro H locs ls hB hS hl
            unfold f_X7_apart_J77 at hB
            refine lv_aload_n hx hb dX7_apart_77 rfl (lv_at hl 0 rfl) ?_
            refine lv_iload hx hb dX7_apart_78 (lv_at hl 4 rfl) ?_
            obtain ⟨t11, ht11, hB⟩ := bi_at hB
            refine r_VlP ⟨hx, hb, hml, hown, hts⟩ (c_X7_weight l dC dI ad cA t6.2 x2 t11 ht11) (cwV 1 hts gX7_apart_X7_weight rfl rfl rfl (by decide +kernel) ⟨Nat.le_of_ble_eq_true rfl, Nat.le_of_ble_eq_true rfl⟩) hK hN hS (by decide) e_45 rfl rfl hl.1 rfl (Nat.le_of_ble_eq_true rfl) dX7_apart_80 ⟨Nat.le_refl _, Nat.le_refl _⟩ (fun H locs hS => ?_)
            refine lv_goto (tgt := 87) hx hb dX7_apart_83 (by decide) ?_
            refine lv_ladd hx hb dX7_apart_87 ?_
            refine lv_topl (fun x12 ex12 => ?_)
            have hB := vl_at ex12 hB
            refine lv_lstore (lv' := [(4, .long x12), (0, .ref (ad 45)), (1, .int a1), (2, .int a2), (3, .int a3), (6, .int x2)]) hx hb dX7_apart_88 hl (by decide) rfl (fun ls hl => ?_)
            obtain ⟨x13, ex13⟩ : ∃ y : Int32, y = x2 + (1 : Int32) := ⟨_, rfl⟩
            have hB := vl_at ex13 hB
            refine lv_iinc (v := x13) (lv' := [(6, .int x13), (4, .long x12), (0, .ref (ad 45)), (1, .int a1), (2, .int a2), (3, .int a3)]) hx hb dX7_apart_90 hl (k := 5) rfl (by rw [ex13]; rfl) (by decide) rfl (fun ls hl => ?_)
            refine lv_goto (tgt := 6) hx hb dX7_apart_93 (by decide) ?_
            exact hI6 _ (Option.some.inj hB).symm H locs ls hS (lv_sub hl [2, 3, 4, 5, 1, 0] rfl)
          refine lv_if_lt (tgt := 77) hx hb dX7_apart_59 (by decide) (fun c14 => ?_) (fun c14 => ?_)
          · have hB := it_t c14 hB
            exact hJ77  H locs ls hB hS (lv_sub hl [1, 2, 3, 4, 6] rfl)
          · have hB := it_f c14 hB
            refine lv_aload_n hx hb dX7_apart_62 rfl (lv_at hl 1 rfl) ?_
            refine r_get (v := .ref (ad 51)) (C := RX7) (T := TX7) (N := 19) hx hb hts hin_X7 hown hK hS (by decide) e_45 rfl 14 (by decide) hk_f31 rfl rfl dX7_apart_63 ?_
            refine lv_iload_n hx hb dX7_apart_66 rfl (lv_at hl 2 rfl) ?_
            obtain ⟨h15, hB⟩ := gd_at hB
            refine r_iald hx hb hK hS h15 dX7_apart_67 ?_
            refine lv_aload_n hx hb dX7_apart_68 rfl (lv_at hl 1 rfl) ?_
            refine r_get (v := .ref (ad 51)) (C := RX7) (T := TX7) (N := 19) hx hb hts hin_X7 hown hK hS (by decide) e_45 rfl 14 (by decide) hk_f31 rfl rfl dX7_apart_69 ?_
            refine lv_iload_n hx hb dX7_apart_72 rfl (lv_at hl 3 rfl) ?_
            obtain ⟨h16, hB⟩ := gd_at hB
            refine r_iald hx hb hK hS h16 dX7_apart_73 ?_
            refine lv_icmp_ne (tgt := 86) hx hb dX7_apart_74 (by decide) (fun c17 => ?_) (fun c17 => ?_)
            · have hB := it_f c17 hB
              exact hJ86  H locs ls hB hS (lv_sub hl [1, 2, 3, 4, 6] rfl)
            · have hB := it_t c17 hB
              exact hJ77  H locs ls hB hS (lv_sub hl [1, 2, 3, 4, 6] rfl)
      have hJ48 : ∀ (H : Heap) (locs : List Loc) (ls : Array Slot), f_X7_apart_J48 a1 a2 x1 x2 t6 = some r6 → ST dC dI ad cA s t6.2 H locs → lv_has ls 8 [(0, .ref (ad 45)), (1, .int a1), (2, .int a2), (3, .int a3), (4, .long x1), (6, .int x2)] → W p l e (RM 3 69) s m args below meth c H locs 0 0 Q (F0 m 48 ls []) := by
        intro H locs ls hB hS hl
        unfold f_X7_apart_J48 at hB
        refine lv_iconst (v := (0 : Int32)) hx hb dX7_apart_48 (by decide) ?_
        exact hJ49 (0 : Int32) H locs ls hB hS (lv_sub hl [0, 1, 2, 3, 4, 5] rfl)
      refine lv_if_eq (tgt := 48) hx hb dX7_apart_26 (by decide) (fun c18 => ?_) (fun c18 => ?_)
      · have hB := it_t c18 hB
        exact hJ48  H locs ls hB hS (lv_sub hl [0, 1, 2, 3, 4, 5] rfl)
      · have hB := it_f c18 hB
        refine lv_aload_n hx hb dX7_apart_29 rfl (lv_at hl 0 rfl) ?_
        refine r_get (v := .ref (ad 51)) (C := RX7) (T := TX7) (N := 19) hx hb hts hin_X7 hown hK hS (by decide) e_45 rfl 14 (by decide) hk_f31 rfl rfl dX7_apart_30 ?_
        refine lv_iload_n hx hb dX7_apart_33 rfl (lv_at hl 2 rfl) ?_
        obtain ⟨h19, hB⟩ := gd_at hB
        refine r_iald hx hb hK hS h19 dX7_apart_34 ?_
        refine lv_aload_n hx hb dX7_apart_35 rfl (lv_at hl 0 rfl) ?_
        refine r_get (v := .ref (ad 51)) (C := RX7) (T := TX7) (N := 19) hx hb hts hin_X7 hown hK hS (by decide) e_45 rfl 14 (by decide) hk_f31 rfl rfl dX7_apart_36 ?_
        refine lv_iload_n hx hb dX7_apart_39 rfl (lv_at hl 3 rfl) ?_
        obtain ⟨h20, hB⟩ := gd_at hB
        refine r_iald hx hb hK hS h20 dX7_apart_40 ?_
        refine lv_icmp_eq (tgt := 48) hx hb dX7_apart_41 (by decide) (fun c21 => ?_) (fun c21 => ?_)
        · have hB := it_t c21 hB
          exact hJ48  H locs ls hB hS (lv_sub hl [0, 1, 2, 3, 4, 5] rfl)
        · have hB := it_f c21 hB
          refine lv_iconst (v := (1 : Int32)) hx hb dX7_apart_44 (by decide) ?_
          refine lv_goto (tgt := 49) hx hb dX7_apart_45 (by decide) ?_
          exact hJ49 (1 : Int32) H locs ls hB hS (lv_sub hl [0, 1, 2, 3, 4, 5] rfl)
  · skip
    intro H locs ls hS hl
    have hS : ST dC dI ad cA s t22.2 H locs := hS
    have hl : lv_has ls 8 [(4, .long t22.1)] := hl
    show W p l e (RM 3 69) s m args below meth c H locs 0 0 Q (F0 m 96 ls [])
    refine lv_lload hx hb dX7_apart_96 (lv_at hl 0 rfl) ?_
    subst hQ
    exact r_lret hx hb hr hK hS hB hlocks dX7_apart_98
set_option maxHeartbeats 4000000 in
set_option maxRecDepth 100000 in
theorem c_X7_common (l : Launch) (dC : Nat → ClassId) (dI : Nat → Nat → Nat) (ad : Nat → Nat) (cA : Nat → ClassId) (σ : Sg) (a1 : Int64) (a2 : Int64) (z : Int64) (hB : f_X7_common a1 a2 = some z) : Kl l dC dI ad cA yX7_common wsX7_common 0 0 [.long a1, .long a2] σ (z, σ) := by
  refine mk_l (cc := cX7_common) (maxL := 10) (ret := (some .long)) (by decide) rfl (Nat.le_of_ble_eq_true rfl) ?_
  intro p e s m args below meth c Q H locs ls ⟨hx, hb, hr, hml, hown, hts, hlocks, hK, hN⟩ hQ hS hl
  have hown : s.vm.findClass RX7 = some m.cls := hown
  have hl : lv_has ls 10 [(0, .long a1), (2, .long a2)] := hl
  unfold f_X7_common at hB
  refine lv_lload_n hx hb dX7_common_0 rfl (lv_at hl 0 rfl) ?_
  refine lv_lstore (lv' := [(4, .long a1), (0, .long a1), (2, .long a2)]) hx hb dX7_common_1 hl (by decide) rfl (fun ls hl => ?_)
  refine lv_lload_n hx hb dX7_common_3 rfl (lv_at hl 2 rfl) ?_
  refine lv_lstore (lv' := [(6, .long a2), (4, .long a1), (0, .long a1), (2, .long a2)]) hx hb dX7_common_4 hl (by decide) rfl (fun ls hl => ?_)
  obtain ⟨t6, ht6, hB⟩ := bi_at hB
  refine wl_W (body := fun a => f_X7_common_B6 a.1 a.2) (Hd := fun a : Int64 × Int64 => ∀ (H : Heap) (locs : List Loc) (ls : Array Slot), ST dC dI ad cA s σ H locs → lv_has ls 10 [(4, .long a.1), (6, .long a.2)] → W p l e (RM 0 0) s m args below meth c H locs 0 0 Q (F0 m 6 ls [])) (Ex := fun b : Int64 => ∀ (H : Heap) (locs : List Loc) (ls : Array Slot), ST dC dI ad cA s σ H locs → lv_has ls 10 [(4, .long b)] → W p l e (RM 0 0) s m args below meth c H locs 0 0 Q (F0 m 31 ls [])) ?_ FU _ t6 ht6 ?_ H locs ls hS (lv_sub hl [1, 0] rfl)
  · intro a r6 hB hI6 hE6 H locs ls hS hl
    obtain ⟨x1, x2⟩ := a
    have hB : f_X7_common_B6 x1 x2 = some r6 := hB
    unfold f_X7_common_B6 at hB
    have hS : ST dC dI ad cA s σ H locs := hS
    have hl : lv_has ls 10 [(4, .long x1), (6, .long x2)] := hl
    show W p l e (RM 0 0) s m args below meth c H locs 0 0 Q (F0 m 6 ls [])
    refine lv_lload hx hb dX7_common_6 (lv_at hl 1 rfl) ?_
    refine lv_lconst (v := (0 : Int64)) hx hb dX7_common_8 (by decide) ?_
    refine W.lcmp hx hb dX7_common_9 ?_
    refine lv_if_eq (tgt := 31) hx hb dX7_common_10 (by decide) (fun c3 => ?_) (fun c3 => ?_)
    · have hB := it_t ((lg_cmp_eq _ _).mp c3) hB
      exact hE6 _ (Option.some.inj hB).symm H locs ls hS (lv_sub hl [0] rfl)
    · have hB := it_f (fun q => c3 ((lg_cmp_eq _ _).mpr q)) hB
      refine lv_lload hx hb dX7_common_13 (lv_at hl 0 rfl) ?_
      refine lv_lload hx hb dX7_common_15 (lv_at hl 1 rfl) ?_
      obtain ⟨h4, hB⟩ := gd_at hB
      refine lv_lrem hx hb dX7_common_17 (of_decide_eq_true h4) ?_
      refine lv_topl (fun x5 ex5 => ?_)
      have hB := vl_at ex5 hB
      refine lv_lstore (lv' := [(8, .long x5), (4, .long x1), (6, .long x2)]) hx hb dX7_common_18 hl (by decide) rfl (fun ls hl => ?_)
      refine lv_lload hx hb dX7_common_20 (lv_at hl 2 rfl) ?_
      refine lv_lstore (lv' := [(4, .long x2), (8, .long x5), (6, .long x2)]) hx hb dX7_common_22 hl (by decide) rfl (fun ls hl => ?_)
      refine lv_lload hx hb dX7_common_24 (lv_at hl 1 rfl) ?_
      refine lv_lstore (lv' := [(6, .long x5), (4, .long x2), (8, .long x5)]) hx hb dX7_common_26 hl (by decide) rfl (fun ls hl => ?_)
      refine lv_goto (tgt := 6) hx hb dX7_common_28 (by decide) ?_
      exact hI6 _ (Option.some.inj hB).symm H locs ls hS (lv_sub hl [1, 0] rfl)
  · skip
    intro H locs ls hS hl
    have hS : ST dC dI ad cA s σ H locs := hS
    have hl : lv_has ls 10 [(4, .long t6)] := hl
    show W p l e (RM 0 0) s m args below meth c H locs 0 0 Q (F0 m 31 ls [])
    refine lv_lload hx hb dX7_common_31 (lv_at hl 0 rfl) ?_
    subst hQ
    exact r_lret hx hb hr hK hS (pz hB) hlocks dX7_common_33
set_option maxHeartbeats 4000000 in
set_option maxRecDepth 100000 in
theorem c_X7_least (l : Launch) (dC : Nat → ClassId) (dI : Nat → Nat → Nat) (ad : Nat → Nat) (cA : Nat → ClassId) (σ : Sg) (a1 : Int64) (a2 : Int64) (a3 : Int32) (z : Int64) (hB : f_X7_least a1 a2 a3 = some z) : Kl l dC dI ad cA yX7_least wsX7_least 1 29 [.long a1, .long a2, .int a3] σ (z, σ) := by
  refine mk_l (cc := cX7_least) (maxL := 5) (ret := (some .long)) (by decide) rfl (Nat.le_of_ble_eq_true rfl) ?_
  intro p e s m args below meth c Q H locs ls ⟨hx, hb, hr, hml, hown, hts, hlocks, hK, hN⟩ hQ hS hl
  have hown : s.vm.findClass RX7 = some m.cls := hown
  have hl : lv_has ls 5 [(0, .long a1), (2, .long a2), (4, .int a3)] := hl
  unfold f_X7_least at hB
  refine lv_iload hx hb dX7_least_0 (lv_at hl 2 rfl) ?_
  have hJ10 : ∀ (x1 : Int64) (H : Heap) (locs : List Loc) (ls : Array Slot), f_X7_least_J10 a1 a2 x1 = some z → ST dC dI ad cA s σ H locs → lv_has ls 5 [(0, .long a1), (2, .long a2)] → W p l e (RM 1 29) s m args below meth c H locs 0 0 Q (F0 m 10 ls [.long x1]) := by
    intro x1 H locs ls hB hS hl
    unfold f_X7_least_J10 at hB
    refine lv_lload_n hx hb dX7_least_10 rfl (lv_at hl 0 rfl) ?_
    refine lv_lload_n hx hb dX7_least_11 rfl (lv_at hl 1 rfl) ?_
    obtain ⟨t2, ht2, hB⟩ := bi_at hB
    refine r_SlP ⟨hx, hb, hml, hown, hts⟩ (c_X7_common l dC dI ad cA σ a1 a2 t2 ht2) (va_cwS 2 hts gX7_least_X7_common rfl rfl rfl (by decide +kernel) ⟨Nat.le_of_ble_eq_true rfl, Nat.le_of_ble_eq_true rfl⟩) hK hN hS rfl hl.1 rfl (Nat.le_of_ble_eq_true rfl) dX7_least_12 ⟨Nat.le_refl _, Nat.le_refl _⟩ (fun H locs hS => ?_)
    obtain ⟨h3, hB⟩ := gd_at hB
    refine lv_ldiv hx hb dX7_least_15 (of_decide_eq_true h3) ?_
    subst hQ
    exact r_lret hx hb hr hK hS (pz hB) hlocks dX7_least_16
  refine lv_if_ne (tgt := 9) hx hb dX7_least_2 (by decide) (fun c4 => ?_) (fun c4 => ?_)
  · have hB := it_f c4 hB
    refine lv_lload_n hx hb dX7_least_9 rfl (lv_at hl 1 rfl) ?_
    exact hJ10 a2 H locs ls hB hS (lv_sub hl [0, 1] rfl)
  · have hB := it_t c4 hB
    refine lv_lload_n hx hb dX7_least_5 rfl (lv_at hl 0 rfl) ?_
    refine lv_goto (tgt := 10) hx hb dX7_least_6 (by decide) ?_
    exact hJ10 a1 H locs ls hB hS (lv_sub hl [0, 1] rfl)
set_option maxHeartbeats 4000000 in
set_option maxRecDepth 100000 in
theorem c_X7_hitting (l : Launch) (dC : Nat → ClassId) (dI : Nat → Nat → Nat) (ad : Nat → Nat) (cA : Nat → ClassId) (σ : Sg) (a1 : Int32) (a2 : Int32) (a3 : Int32) (z : Int64 × Sg) (hB : f_X7_hitting σ a1 a2 a3 = some z) : Kl l dC dI ad cA yX7_hitting wsX7_hitting 4 98 [.ref (ad 45), .int a1, .int a2, .int a3] σ z := by
  refine mk_l (cc := cX7_hitting) (maxL := 4) (ret := (some .long)) (by decide) rfl (Nat.le_of_ble_eq_true rfl) ?_
  intro p e s m args below meth c Q H locs ls ⟨hx, hb, hr, hml, hown, hts, hlocks, hK, hN⟩ hQ hS hl
  have hown : s.vm.findClass RX7 = some m.cls := hown
  have hl : lv_has ls 4 [(0, .ref (ad 45)), (1, .int a1), (2, .int a2), (3, .int a3)] := hl
  have hk_c149 := hts (.constantLong RX7 149 (-1)) (by decide +kernel)
  have hk_c165 := hts (.constantLong RX7 165 (-2)) (by decide +kernel)
  unfold f_X7_hitting at hB
  refine lv_aload_n hx hb dX7_hitting_0 rfl (lv_at hl 0 rfl) ?_
  refine lv_iload_n hx hb dX7_hitting_1 rfl (lv_at hl 1 rfl) ?_
  obtain ⟨t1, ht1, hB⟩ := bi_at hB
  refine r_ViP ⟨hx, hb, hml, hown, hts⟩ (c_X7_isNode l dC dI ad cA σ a1 t1 ht1) (cwV 1 hts gX7_hitting_X7_isNode rfl rfl rfl (by decide +kernel) ⟨Nat.le_of_ble_eq_true rfl, Nat.le_of_ble_eq_true rfl⟩) hK hN hS (by decide) e_45 rfl rfl hl.1 rfl (Nat.le_of_ble_eq_true rfl) dX7_hitting_2 ⟨Nat.le_refl _, Nat.le_refl _⟩ (fun H locs hS => ?_)
  refine lv_if_eq (tgt := 26) hx hb dX7_hitting_5 (by decide) (fun c2 => ?_) (fun c2 => ?_)
  · have hB := it_t c2 hB
    refine lv_ldc2 (v := (-1 : Int64)) hx hb hown hk_c149 dX7_hitting_26 ?_
    subst hQ
    exact r_lret hx hb hr hK hS hB hlocks dX7_hitting_29
  · have hB := it_f c2 hB
    refine lv_aload_n hx hb dX7_hitting_8 rfl (lv_at hl 0 rfl) ?_
    refine lv_iload_n hx hb dX7_hitting_9 rfl (lv_at hl 2 rfl) ?_
    obtain ⟨t3, ht3, hB⟩ := bi_at hB
    refine r_ViP ⟨hx, hb, hml, hown, hts⟩ (c_X7_isNode l dC dI ad cA σ a2 t3 ht3) (cwV 1 hts gX7_hitting_X7_isNode rfl rfl rfl (by decide +kernel) ⟨Nat.le_of_ble_eq_true rfl, Nat.le_of_ble_eq_true rfl⟩) hK hN hS (by decide) e_45 rfl rfl hl.1 rfl (Nat.le_of_ble_eq_true rfl) dX7_hitting_10 ⟨Nat.le_refl _, Nat.le_refl _⟩ (fun H locs hS => ?_)
    refine lv_if_eq (tgt := 26) hx hb dX7_hitting_13 (by decide) (fun c4 => ?_) (fun c4 => ?_)
    · have hB := it_t c4 hB
      refine lv_ldc2 (v := (-1 : Int64)) hx hb hown hk_c149 dX7_hitting_26 ?_
      subst hQ
      exact r_lret hx hb hr hK hS hB hlocks dX7_hitting_29
    · have hB := it_f c4 hB
      refine lv_iload_n hx hb dX7_hitting_16 rfl (lv_at hl 3 rfl) ?_
      refine lv_i2l hx hb dX7_hitting_17 rfl ?_
      refine lv_lconst (v := (0 : Int64)) hx hb dX7_hitting_18 (by decide) ?_
      refine lv_lconst (v := (1 : Int64)) hx hb dX7_hitting_19 (by decide) ?_
      obtain ⟨t5, ht5, hB⟩ := bi_at hB
      refine r_SiP ⟨hx, hb, hml, hown, hts⟩ (c_X7_in l dC dI ad cA σ a3.toInt64 (0 : Int64) (1 : Int64) t5 ht5) (va_cwS 3 hts gX7_hitting_X7_in rfl rfl rfl (by decide +kernel) ⟨Nat.le_of_ble_eq_true rfl, Nat.le_of_ble_eq_true rfl⟩) hK hN hS rfl hl.1 rfl (Nat.le_of_ble_eq_true rfl) dX7_hitting_20 ⟨Nat.le_refl _, Nat.le_refl _⟩ (fun H locs hS => ?_)
      refine lv_if_ne (tgt := 30) hx hb dX7_hitting_23 (by decide) (fun c6 => ?_) (fun c6 => ?_)
      · have hB := it_f c6 hB
        refine lv_aload_n hx hb dX7_hitting_30 rfl (lv_at hl 0 rfl) ?_
        refine lv_bipush (v := (-9 : Int32)) hx hb dX7_hitting_31 (by decide) ?_
        obtain ⟨t7, ht7, hB⟩ := bi_at hB
        refine r_Vi ⟨hx, hb, hml, hown, hts⟩ (c_X7_hangs l dC dI ad cA σ (-9 : Int32) t7 ht7) (cwV 1 hts gX7_hitting_X7_hangs rfl rfl rfl (by decide +kernel) ⟨Nat.le_of_ble_eq_true rfl, Nat.le_of_ble_eq_true rfl⟩) hK hN hS (by decide) e_45 rfl rfl hl.1 rfl (Nat.le_of_ble_eq_true rfl) dX7_hitting_33 ⟨Nat.le_refl _, Nat.le_refl _⟩ (fun H locs hS => ?_)
        refine lv_if_eq (tgt := 60) hx hb dX7_hitting_36 (by decide) (fun c8 => ?_) (fun c8 => ?_)
        · have hB := it_t c8 hB
          refine lv_ldc2 (v := (-2 : Int64)) hx hb hown hk_c165 dX7_hitting_60 ?_
          subst hQ
          exact r_lret hx hb hr hK hS hB hlocks dX7_hitting_63
        · have hB := it_f c8 hB
          refine lv_aload_n hx hb dX7_hitting_39 rfl (lv_at hl 0 rfl) ?_
          refine lv_iload_n hx hb dX7_hitting_40 rfl (lv_at hl 1 rfl) ?_
          refine lv_iload_n hx hb dX7_hitting_41 rfl (lv_at hl 2 rfl) ?_
          refine lv_bipush (v := (-9 : Int32)) hx hb dX7_hitting_42 (by decide) ?_
          obtain ⟨t9, ht9, hB⟩ := bi_at hB
          refine r_Vl ⟨hx, hb, hml, hown, hts⟩ (c_X7_steps l dC dI ad cA t7.2 a1 a2 (-9 : Int32) t9 ht9) (cwV 3 hts gX7_hitting_X7_steps rfl rfl rfl (by decide +kernel) ⟨Nat.le_of_ble_eq_true rfl, Nat.le_of_ble_eq_true rfl⟩) hK hN hS (by decide) e_45 rfl rfl hl.1 rfl (Nat.le_of_ble_eq_true rfl) dX7_hitting_44 ⟨Nat.le_refl _, Nat.le_refl _⟩ (fun H locs hS => ?_)
          refine lv_aload_n hx hb dX7_hitting_47 rfl (lv_at hl 0 rfl) ?_
          refine lv_bipush (v := (-9 : Int32)) hx hb dX7_hitting_48 (by decide) ?_
          obtain ⟨t10, ht10, hB⟩ := bi_at hB
          refine r_Vl ⟨hx, hb, hml, hown, hts⟩ (c_X7_treesBut l dC dI ad cA t9.2 (-9 : Int32) t10 ht10) (cwV 1 hts gX7_hitting_X7_treesBut rfl rfl rfl (by decide +kernel) ⟨Nat.le_of_ble_eq_true rfl, Nat.le_of_ble_eq_true rfl⟩) hK hN hS (by decide) e_45 rfl rfl hl.1 rfl (Nat.le_of_ble_eq_true rfl) dX7_hitting_50 ⟨Nat.le_refl _, Nat.le_refl _⟩ (fun H locs hS => ?_)
          refine lv_iload_n hx hb dX7_hitting_53 rfl (lv_at hl 3 rfl) ?_
          obtain ⟨t11, ht11, hB⟩ := bi_at hB
          refine r_SlP ⟨hx, hb, hml, hown, hts⟩ (c_X7_least l dC dI ad cA t10.2 t9.1 t10.1 a3 t11 ht11) (va_cwS 3 hts gX7_hitting_X7_least rfl rfl rfl (by decide +kernel) ⟨Nat.le_of_ble_eq_true rfl, Nat.le_of_ble_eq_true rfl⟩) hK hN hS rfl hl.1 rfl (Nat.le_of_ble_eq_true rfl) dX7_hitting_54 ⟨Nat.le_refl _, Nat.le_refl _⟩ (fun H locs hS => ?_)
          refine lv_goto (tgt := 63) hx hb dX7_hitting_57 (by decide) ?_
          subst hQ
          exact r_lret hx hb hr hK hS hB hlocks dX7_hitting_63
      · have hB := it_t c6 hB
        refine lv_ldc2 (v := (-1 : Int64)) hx hb hown hk_c149 dX7_hitting_26 ?_
        subst hQ
        exact r_lret hx hb hr hK hS hB hlocks dX7_hitting_29
set_option maxHeartbeats 4000000 in
set_option maxRecDepth 100000 in
theorem c_X7_between (l : Launch) (dC : Nat → ClassId) (dI : Nat → Nat → Nat) (ad : Nat → Nat) (cA : Nat → ClassId) (σ : Sg) (a1 : Int32) (a2 : Int32) (a3 : Int32) (a4 : Int32) (z : Int64 × Sg) (hB : f_X7_between σ a1 a2 a3 a4 = some z) : Kl l dC dI ad cA yX7_between wsX7_between 4 98 [.ref (ad 45), .int a1, .int a2, .int a3, .int a4] σ z := by
  refine mk_l (cc := cX7_between) (maxL := 9) (ret := (some .long)) (by decide) rfl (Nat.le_of_ble_eq_true rfl) ?_
  intro p e s m args below meth c Q H locs ls ⟨hx, hb, hr, hml, hown, hts, hlocks, hK, hN⟩ hQ hS hl
  have hown : s.vm.findClass RX7 = some m.cls := hown
  have hl : lv_has ls 9 [(0, .ref (ad 45)), (1, .int a1), (2, .int a2), (3, .int a3), (4, .int a4)] := hl
  have hk_c149 := hts (.constantLong RX7 149 (-1)) (by decide +kernel)
  have hk_c165 := hts (.constantLong RX7 165 (-2)) (by decide +kernel)
  unfold f_X7_between at hB
  refine lv_aload_n hx hb dX7_between_0 rfl (lv_at hl 0 rfl) ?_
  refine lv_iload_n hx hb dX7_between_1 rfl (lv_at hl 1 rfl) ?_
  obtain ⟨t1, ht1, hB⟩ := bi_at hB
  refine r_ViP ⟨hx, hb, hml, hown, hts⟩ (c_X7_isNode l dC dI ad cA σ a1 t1 ht1) (cwV 1 hts gX7_between_X7_isNode rfl rfl rfl (by decide +kernel) ⟨Nat.le_of_ble_eq_true rfl, Nat.le_of_ble_eq_true rfl⟩) hK hN hS (by decide) e_45 rfl rfl hl.1 rfl (Nat.le_of_ble_eq_true rfl) dX7_between_2 ⟨Nat.le_refl _, Nat.le_refl _⟩ (fun H locs hS => ?_)
  refine lv_if_eq (tgt := 37) hx hb dX7_between_5 (by decide) (fun c2 => ?_) (fun c2 => ?_)
  · have hB := it_t c2 hB
    refine lv_ldc2 (v := (-1 : Int64)) hx hb hown hk_c149 dX7_between_37 ?_
    subst hQ
    exact r_lret hx hb hr hK hS hB hlocks dX7_between_40
  · have hB := it_f c2 hB
    refine lv_aload_n hx hb dX7_between_8 rfl (lv_at hl 0 rfl) ?_
    refine lv_iload_n hx hb dX7_between_9 rfl (lv_at hl 2 rfl) ?_
    obtain ⟨t3, ht3, hB⟩ := bi_at hB
    refine r_ViP ⟨hx, hb, hml, hown, hts⟩ (c_X7_isNode l dC dI ad cA σ a2 t3 ht3) (cwV 1 hts gX7_between_X7_isNode rfl rfl rfl (by decide +kernel) ⟨Nat.le_of_ble_eq_true rfl, Nat.le_of_ble_eq_true rfl⟩) hK hN hS (by decide) e_45 rfl rfl hl.1 rfl (Nat.le_of_ble_eq_true rfl) dX7_between_10 ⟨Nat.le_refl _, Nat.le_refl _⟩ (fun H locs hS => ?_)
    refine lv_if_eq (tgt := 37) hx hb dX7_between_13 (by decide) (fun c4 => ?_) (fun c4 => ?_)
    · have hB := it_t c4 hB
      refine lv_ldc2 (v := (-1 : Int64)) hx hb hown hk_c149 dX7_between_37 ?_
      subst hQ
      exact r_lret hx hb hr hK hS hB hlocks dX7_between_40
    · have hB := it_f c4 hB
      refine lv_iload_n hx hb dX7_between_16 rfl (lv_at hl 3 rfl) ?_
      refine lv_i2l hx hb dX7_between_17 rfl ?_
      refine lv_lconst (v := (0 : Int64)) hx hb dX7_between_18 (by decide) ?_
      refine lv_lconst (v := (1 : Int64)) hx hb dX7_between_19 (by decide) ?_
      obtain ⟨t5, ht5, hB⟩ := bi_at hB
      refine r_SiP ⟨hx, hb, hml, hown, hts⟩ (c_X7_in l dC dI ad cA σ a3.toInt64 (0 : Int64) (1 : Int64) t5 ht5) (va_cwS 3 hts gX7_between_X7_in rfl rfl rfl (by decide +kernel) ⟨Nat.le_of_ble_eq_true rfl, Nat.le_of_ble_eq_true rfl⟩) hK hN hS rfl hl.1 rfl (Nat.le_of_ble_eq_true rfl) dX7_between_20 ⟨Nat.le_refl _, Nat.le_refl _⟩ (fun H locs hS => ?_)
      refine lv_if_eq (tgt := 37) hx hb dX7_between_23 (by decide) (fun c6 => ?_) (fun c6 => ?_)
      · have hB := it_t c6 hB
        refine lv_ldc2 (v := (-1 : Int64)) hx hb hown hk_c149 dX7_between_37 ?_
        subst hQ
        exact r_lret hx hb hr hK hS hB hlocks dX7_between_40
      · have hB := it_f c6 hB
        refine lv_iload hx hb dX7_between_26 (lv_at hl 4 rfl) ?_
        refine lv_i2l hx hb dX7_between_28 rfl ?_
        refine lv_lconst (v := (0 : Int64)) hx hb dX7_between_29 (by decide) ?_
        refine lv_lconst (v := (1 : Int64)) hx hb dX7_between_30 (by decide) ?_
        obtain ⟨t7, ht7, hB⟩ := bi_at hB
        refine r_SiP ⟨hx, hb, hml, hown, hts⟩ (c_X7_in l dC dI ad cA σ a4.toInt64 (0 : Int64) (1 : Int64) t7 ht7) (va_cwS 3 hts gX7_between_X7_in rfl rfl rfl (by decide +kernel) ⟨Nat.le_of_ble_eq_true rfl, Nat.le_of_ble_eq_true rfl⟩) hK hN hS rfl hl.1 rfl (Nat.le_of_ble_eq_true rfl) dX7_between_31 ⟨Nat.le_refl _, Nat.le_refl _⟩ (fun H locs hS => ?_)
        refine lv_if_ne (tgt := 41) hx hb dX7_between_34 (by decide) (fun c8 => ?_) (fun c8 => ?_)
        · have hB := it_f c8 hB
          refine lv_aload_n hx hb dX7_between_41 rfl (lv_at hl 0 rfl) ?_
          refine lv_bipush (v := (-9 : Int32)) hx hb dX7_between_42 (by decide) ?_
          obtain ⟨t9, ht9, hB⟩ := bi_at hB
          refine r_Vi ⟨hx, hb, hml, hown, hts⟩ (c_X7_hangs l dC dI ad cA σ (-9 : Int32) t9 ht9) (cwV 1 hts gX7_between_X7_hangs rfl rfl rfl (by decide +kernel) ⟨Nat.le_of_ble_eq_true rfl, Nat.le_of_ble_eq_true rfl⟩) hK hN hS (by decide) e_45 rfl rfl hl.1 rfl (Nat.le_of_ble_eq_true rfl) dX7_between_44 ⟨Nat.le_refl _, Nat.le_refl _⟩ (fun H locs hS => ?_)
          refine lv_if_ne (tgt := 54) hx hb dX7_between_47 (by decide) (fun c10 => ?_) (fun c10 => ?_)
          · have hB := it_f c10 hB
            refine lv_aload_n hx hb dX7_between_54 rfl (lv_at hl 0 rfl) ?_
            refine lv_iload_n hx hb dX7_between_55 rfl (lv_at hl 1 rfl) ?_
            refine lv_iload_n hx hb dX7_between_56 rfl (lv_at hl 2 rfl) ?_
            refine lv_bipush (v := (-9 : Int32)) hx hb dX7_between_57 (by decide) ?_
            obtain ⟨t11, ht11, hB⟩ := bi_at hB
            refine r_Vl ⟨hx, hb, hml, hown, hts⟩ (c_X7_steps l dC dI ad cA t9.2 a1 a2 (-9 : Int32) t11 ht11) (cwV 3 hts gX7_between_X7_steps rfl rfl rfl (by decide +kernel) ⟨Nat.le_of_ble_eq_true rfl, Nat.le_of_ble_eq_true rfl⟩) hK hN hS (by decide) e_45 rfl rfl hl.1 rfl (Nat.le_of_ble_eq_true rfl) dX7_between_59 ⟨Nat.le_refl _, Nat.le_refl _⟩ (fun H locs hS => ?_)
            refine lv_aload_n hx hb dX7_between_62 rfl (lv_at hl 0 rfl) ?_
            refine lv_iload_n hx hb dX7_between_63 rfl (lv_at hl 2 rfl) ?_
            refine lv_iload_n hx hb dX7_between_64 rfl (lv_at hl 1 rfl) ?_
            refine lv_bipush (v := (-9 : Int32)) hx hb dX7_between_65 (by decide) ?_
            obtain ⟨t12, ht12, hB⟩ := bi_at hB
            refine r_Vl ⟨hx, hb, hml, hown, hts⟩ (c_X7_steps l dC dI ad cA t11.2 a2 a1 (-9 : Int32) t12 ht12) (cwV 3 hts gX7_between_X7_steps rfl rfl rfl (by decide +kernel) ⟨Nat.le_of_ble_eq_true rfl, Nat.le_of_ble_eq_true rfl⟩) hK hN hS (by decide) e_45 rfl rfl hl.1 rfl (Nat.le_of_ble_eq_true rfl) dX7_between_67 ⟨Nat.le_refl _, Nat.le_refl _⟩ (fun H locs hS => ?_)
            refine lv_ladd hx hb dX7_between_70 ?_
            refine lv_topl (fun x13 ex13 => ?_)
            have hB := vl_at ex13 hB
            refine lv_lstore (lv' := [(5, .long x13), (0, .ref (ad 45)), (1, .int a1), (2, .int a2), (3, .int a3), (4, .int a4)]) hx hb dX7_between_71 hl (by decide) rfl (fun ls hl => ?_)
            refine lv_aload_n hx hb dX7_between_73 rfl (lv_at hl 1 rfl) ?_
            refine lv_bipush (v := (-9 : Int32)) hx hb dX7_between_74 (by decide) ?_
            obtain ⟨t14, ht14, hB⟩ := bi_at hB
            refine r_Vl ⟨hx, hb, hml, hown, hts⟩ (c_X7_treesBut l dC dI ad cA t12.2 (-9 : Int32) t14 ht14) (cwV 1 hts gX7_between_X7_treesBut rfl rfl rfl (by decide +kernel) ⟨Nat.le_of_ble_eq_true rfl, Nat.le_of_ble_eq_true rfl⟩) hK hN hS (by decide) e_45 rfl rfl hl.1 rfl (Nat.le_of_ble_eq_true rfl) dX7_between_76 ⟨Nat.le_refl _, Nat.le_refl _⟩ (fun H locs hS => ?_)
            refine lv_lstore (lv' := [(7, .long t14.1), (5, .long x13), (0, .ref (ad 45)), (1, .int a1), (2, .int a2), (3, .int a3), (4, .int a4)]) hx hb dX7_between_79 hl (by decide) rfl (fun ls hl => ?_)
            refine lv_lload hx hb dX7_between_81 (lv_at hl 1 rfl) ?_
            refine lv_iload_n hx hb dX7_between_83 rfl (lv_at hl 5 rfl) ?_
            have hJ102 : ∀ (x15 : Int64) (H : Heap) (locs : List Loc) (ls : Array Slot), f_X7_between_J102 a4 x13 t14 x15 = some z → ST dC dI ad cA s t14.2 H locs → lv_has ls 9 [(4, .int a4)] → W p l e (RM 4 98) s m args below meth c H locs 0 0 Q (F0 m 102 ls [.long x15, .long x13]) := by
              intro x15 H locs ls hB hS hl
              unfold f_X7_between_J102 at hB
              refine lv_iload hx hb dX7_between_102 (lv_at hl 0 rfl) ?_
              obtain ⟨t16, ht16, hB⟩ := bi_at hB
              refine r_SlP ⟨hx, hb, hml, hown, hts⟩ (c_X7_least l dC dI ad cA t14.2 x13 x15 a4 t16 ht16) (va_cwS 3 hts gX7_between_X7_least rfl rfl rfl (by decide +kernel) ⟨Nat.le_of_ble_eq_true rfl, Nat.le_of_ble_eq_true rfl⟩) hK hN hS rfl hl.1 rfl (Nat.le_of_ble_eq_true rfl) dX7_between_104 ⟨Nat.le_refl _, Nat.le_refl _⟩ (fun H locs hS => ?_)
              subst hQ
              exact r_lret hx hb hr hK hS hB hlocks dX7_between_107
            refine lv_if_ne (tgt := 92) hx hb dX7_between_84 (by decide) (fun c17 => ?_) (fun c17 => ?_)
            · have hB := it_f c17 hB
              refine lv_iconst (v := (2 : Int32)) hx hb dX7_between_92 (by decide) ?_
              refine lv_aload_n hx hb dX7_between_93 rfl (lv_at hl 2 rfl) ?_
              obtain ⟨t18, ht18, hB⟩ := bi_at hB
              refine r_ViP ⟨hx, hb, hml, hown, hts⟩ (c_X7_whole l dC dI ad cA t14.2 t18 ht18) (cwV 0 hts gX7_between_X7_whole rfl rfl rfl (by decide +kernel) ⟨Nat.le_of_ble_eq_true rfl, Nat.le_of_ble_eq_true rfl⟩) hK hN hS (by decide) e_45 rfl rfl hl.1 rfl (Nat.le_of_ble_eq_true rfl) dX7_between_94 ⟨Nat.le_refl _, Nat.le_refl _⟩ (fun H locs hS => ?_)
              refine lv_imul hx hb dX7_between_97 ?_
              refine lv_i2l hx hb dX7_between_98 rfl ?_
              refine lv_lload hx hb dX7_between_99 (lv_at hl 0 rfl) ?_
              refine lv_lmul hx hb dX7_between_101 ?_
              exact hJ102 ((((2 : Int32) * t18).toInt64) * t14.1) H locs ls hB hS (lv_sub hl [6] rfl)
            · have hB := it_t c17 hB
              refine lv_lload hx hb dX7_between_87 (lv_at hl 0 rfl) ?_
              refine lv_goto (tgt := 102) hx hb dX7_between_89 (by decide) ?_
              exact hJ102 t14.1 H locs ls hB hS (lv_sub hl [6] rfl)
          · have hB := it_t c10 hB
            refine lv_ldc2 (v := (-2 : Int64)) hx hb hown hk_c165 dX7_between_50 ?_
            subst hQ
            exact r_lret hx hb hr hK hS hB hlocks dX7_between_53
        · have hB := it_t c8 hB
          refine lv_ldc2 (v := (-1 : Int64)) hx hb hown hk_c149 dX7_between_37 ?_
          subst hQ
          exact r_lret hx hb hr hK hS hB hlocks dX7_between_40
set_option maxHeartbeats 4000000 in
set_option maxRecDepth 100000 in
theorem c_X7_ahead (l : Launch) (dC : Nat → ClassId) (dI : Nat → Nat → Nat) (ad : Nat → Nat) (cA : Nat → ClassId) (σ : Sg) (a1 : Int32) (a2 : Int32) (a3 : Int32) (a4 : Int32) (z : Int64 × Sg) (hB : f_X7_ahead σ a1 a2 a3 a4 = some z) : Kl l dC dI ad cA yX7_ahead wsX7_ahead 4 96 [.ref (ad 45), .int a1, .int a2, .int a3, .int a4] σ z := by
  refine mk_l (cc := cX7_ahead) (maxL := 5) (ret := (some .long)) (by decide) rfl (Nat.le_of_ble_eq_true rfl) ?_
  intro p e s m args below meth c Q H locs ls ⟨hx, hb, hr, hml, hown, hts, hlocks, hK, hN⟩ hQ hS hl
  have hown : s.vm.findClass RX7 = some m.cls := hown
  have hl : lv_has ls 5 [(0, .ref (ad 45)), (1, .int a1), (2, .int a2), (3, .int a3), (4, .int a4)] := hl
  have hk_c149 := hts (.constantLong RX7 149 (-1)) (by decide +kernel)
  have hk_c165 := hts (.constantLong RX7 165 (-2)) (by decide +kernel)
  unfold f_X7_ahead at hB
  refine lv_aload_n hx hb dX7_ahead_0 rfl (lv_at hl 0 rfl) ?_
  refine lv_iload_n hx hb dX7_ahead_1 rfl (lv_at hl 1 rfl) ?_
  obtain ⟨t1, ht1, hB⟩ := bi_at hB
  refine r_ViP ⟨hx, hb, hml, hown, hts⟩ (c_X7_isNode l dC dI ad cA σ a1 t1 ht1) (cwV 1 hts gX7_ahead_X7_isNode rfl rfl rfl (by decide +kernel) ⟨Nat.le_of_ble_eq_true rfl, Nat.le_of_ble_eq_true rfl⟩) hK hN hS (by decide) e_45 rfl rfl hl.1 rfl (Nat.le_of_ble_eq_true rfl) dX7_ahead_2 ⟨Nat.le_refl _, Nat.le_refl _⟩ (fun H locs hS => ?_)
  refine lv_if_eq (tgt := 40) hx hb dX7_ahead_5 (by decide) (fun c2 => ?_) (fun c2 => ?_)
  · have hB := it_t c2 hB
    refine lv_ldc2 (v := (-1 : Int64)) hx hb hown hk_c149 dX7_ahead_40 ?_
    subst hQ
    exact r_lret hx hb hr hK hS hB hlocks dX7_ahead_43
  · have hB := it_f c2 hB
    refine lv_aload_n hx hb dX7_ahead_8 rfl (lv_at hl 0 rfl) ?_
    refine lv_iload_n hx hb dX7_ahead_9 rfl (lv_at hl 2 rfl) ?_
    obtain ⟨t3, ht3, hB⟩ := bi_at hB
    refine r_ViP ⟨hx, hb, hml, hown, hts⟩ (c_X7_isNode l dC dI ad cA σ a2 t3 ht3) (cwV 1 hts gX7_ahead_X7_isNode rfl rfl rfl (by decide +kernel) ⟨Nat.le_of_ble_eq_true rfl, Nat.le_of_ble_eq_true rfl⟩) hK hN hS (by decide) e_45 rfl rfl hl.1 rfl (Nat.le_of_ble_eq_true rfl) dX7_ahead_10 ⟨Nat.le_refl _, Nat.le_refl _⟩ (fun H locs hS => ?_)
    refine lv_if_eq (tgt := 40) hx hb dX7_ahead_13 (by decide) (fun c4 => ?_) (fun c4 => ?_)
    · have hB := it_t c4 hB
      refine lv_ldc2 (v := (-1 : Int64)) hx hb hown hk_c149 dX7_ahead_40 ?_
      subst hQ
      exact r_lret hx hb hr hK hS hB hlocks dX7_ahead_43
    · have hB := it_f c4 hB
      refine lv_aload_n hx hb dX7_ahead_16 rfl (lv_at hl 0 rfl) ?_
      refine lv_iload_n hx hb dX7_ahead_17 rfl (lv_at hl 3 rfl) ?_
      obtain ⟨t5, ht5, hB⟩ := bi_at hB
      refine r_ViP ⟨hx, hb, hml, hown, hts⟩ (c_X7_isNode l dC dI ad cA σ a3 t5 ht5) (cwV 1 hts gX7_ahead_X7_isNode rfl rfl rfl (by decide +kernel) ⟨Nat.le_of_ble_eq_true rfl, Nat.le_of_ble_eq_true rfl⟩) hK hN hS (by decide) e_45 rfl rfl hl.1 rfl (Nat.le_of_ble_eq_true rfl) dX7_ahead_18 ⟨Nat.le_refl _, Nat.le_refl _⟩ (fun H locs hS => ?_)
      refine lv_if_eq (tgt := 40) hx hb dX7_ahead_21 (by decide) (fun c6 => ?_) (fun c6 => ?_)
      · have hB := it_t c6 hB
        refine lv_ldc2 (v := (-1 : Int64)) hx hb hown hk_c149 dX7_ahead_40 ?_
        subst hQ
        exact r_lret hx hb hr hK hS hB hlocks dX7_ahead_43
      · have hB := it_f c6 hB
        refine lv_iload_n hx hb dX7_ahead_24 rfl (lv_at hl 2 rfl) ?_
        refine lv_iload_n hx hb dX7_ahead_25 rfl (lv_at hl 3 rfl) ?_
        refine lv_icmp_eq (tgt := 40) hx hb dX7_ahead_26 (by decide) (fun c7 => ?_) (fun c7 => ?_)
        · have hB := it_t c7 hB
          refine lv_ldc2 (v := (-1 : Int64)) hx hb hown hk_c149 dX7_ahead_40 ?_
          subst hQ
          exact r_lret hx hb hr hK hS hB hlocks dX7_ahead_43
        · have hB := it_f c7 hB
          refine lv_iload hx hb dX7_ahead_29 (lv_at hl 4 rfl) ?_
          refine lv_i2l hx hb dX7_ahead_31 rfl ?_
          refine lv_lconst (v := (0 : Int64)) hx hb dX7_ahead_32 (by decide) ?_
          refine lv_lconst (v := (1 : Int64)) hx hb dX7_ahead_33 (by decide) ?_
          obtain ⟨t8, ht8, hB⟩ := bi_at hB
          refine r_SiP ⟨hx, hb, hml, hown, hts⟩ (c_X7_in l dC dI ad cA σ a4.toInt64 (0 : Int64) (1 : Int64) t8 ht8) (va_cwS 3 hts gX7_ahead_X7_in rfl rfl rfl (by decide +kernel) ⟨Nat.le_of_ble_eq_true rfl, Nat.le_of_ble_eq_true rfl⟩) hK hN hS rfl hl.1 rfl (Nat.le_of_ble_eq_true rfl) dX7_ahead_34 ⟨Nat.le_refl _, Nat.le_refl _⟩ (fun H locs hS => ?_)
          refine lv_if_ne (tgt := 44) hx hb dX7_ahead_37 (by decide) (fun c9 => ?_) (fun c9 => ?_)
          · have hB := it_f c9 hB
            refine lv_aload_n hx hb dX7_ahead_44 rfl (lv_at hl 0 rfl) ?_
            refine lv_bipush (v := (-9 : Int32)) hx hb dX7_ahead_45 (by decide) ?_
            obtain ⟨t10, ht10, hB⟩ := bi_at hB
            refine r_Vi ⟨hx, hb, hml, hown, hts⟩ (c_X7_hangs l dC dI ad cA σ (-9 : Int32) t10 ht10) (cwV 1 hts gX7_ahead_X7_hangs rfl rfl rfl (by decide +kernel) ⟨Nat.le_of_ble_eq_true rfl, Nat.le_of_ble_eq_true rfl⟩) hK hN hS (by decide) e_45 rfl rfl hl.1 rfl (Nat.le_of_ble_eq_true rfl) dX7_ahead_47 ⟨Nat.le_refl _, Nat.le_refl _⟩ (fun H locs hS => ?_)
            refine lv_if_eq (tgt := 76) hx hb dX7_ahead_50 (by decide) (fun c11 => ?_) (fun c11 => ?_)
            · have hB := it_t c11 hB
              refine lv_ldc2 (v := (-2 : Int64)) hx hb hown hk_c165 dX7_ahead_76 ?_
              subst hQ
              exact r_lret hx hb hr hK hS hB hlocks dX7_ahead_79
            · have hB := it_f c11 hB
              refine lv_aload_n hx hb dX7_ahead_53 rfl (lv_at hl 0 rfl) ?_
              refine lv_iload_n hx hb dX7_ahead_54 rfl (lv_at hl 1 rfl) ?_
              refine lv_iload_n hx hb dX7_ahead_55 rfl (lv_at hl 2 rfl) ?_
              refine lv_iload_n hx hb dX7_ahead_56 rfl (lv_at hl 3 rfl) ?_
              obtain ⟨t12, ht12, hB⟩ := bi_at hB
              refine r_Vl ⟨hx, hb, hml, hown, hts⟩ (c_X7_apart l dC dI ad cA t10.2 a1 a2 a3 t12 ht12) (cwV 3 hts gX7_ahead_X7_apart rfl rfl rfl (by decide +kernel) ⟨Nat.le_of_ble_eq_true rfl, Nat.le_of_ble_eq_true rfl⟩) hK hN hS (by decide) e_45 rfl rfl hl.1 rfl (Nat.le_of_ble_eq_true rfl) dX7_ahead_57 ⟨Nat.le_refl _, Nat.le_refl _⟩ (fun H locs hS => ?_)
              refine lv_aload_n hx hb dX7_ahead_60 rfl (lv_at hl 0 rfl) ?_
              refine lv_bipush (v := (-9 : Int32)) hx hb dX7_ahead_61 (by decide) ?_
              refine lv_iload_n hx hb dX7_ahead_63 rfl (lv_at hl 2 rfl) ?_
              refine lv_iload_n hx hb dX7_ahead_64 rfl (lv_at hl 3 rfl) ?_
              obtain ⟨t13, ht13, hB⟩ := bi_at hB
              refine r_Vl ⟨hx, hb, hml, hown, hts⟩ (c_X7_apart l dC dI ad cA t12.2 (-9 : Int32) a2 a3 t13 ht13) (cwV 3 hts gX7_ahead_X7_apart rfl rfl rfl (by decide +kernel) ⟨Nat.le_of_ble_eq_true rfl, Nat.le_of_ble_eq_true rfl⟩) hK hN hS (by decide) e_45 rfl rfl hl.1 rfl (Nat.le_of_ble_eq_true rfl) dX7_ahead_65 ⟨Nat.le_refl _, Nat.le_refl _⟩ (fun H locs hS => ?_)
              refine lv_iload hx hb dX7_ahead_68 (lv_at hl 4 rfl) ?_
              obtain ⟨t14, ht14, hB⟩ := bi_at hB
              refine r_SlP ⟨hx, hb, hml, hown, hts⟩ (c_X7_least l dC dI ad cA t13.2 t12.1 t13.1 a4 t14 ht14) (va_cwS 3 hts gX7_ahead_X7_least rfl rfl rfl (by decide +kernel) ⟨Nat.le_of_ble_eq_true rfl, Nat.le_of_ble_eq_true rfl⟩) hK hN hS rfl hl.1 rfl (Nat.le_of_ble_eq_true rfl) dX7_ahead_70 ⟨Nat.le_refl _, Nat.le_refl _⟩ (fun H locs hS => ?_)
              refine lv_goto (tgt := 79) hx hb dX7_ahead_73 (by decide) ?_
              subst hQ
              exact r_lret hx hb hr hK hS hB hlocks dX7_ahead_79
          · have hB := it_t c9 hB
            refine lv_ldc2 (v := (-1 : Int64)) hx hb hown hk_c149 dX7_ahead_40 ?_
            subst hQ
            exact r_lret hx hb hr hK hS hB hlocks dX7_ahead_43
set_option maxHeartbeats 4000000 in
set_option maxRecDepth 100000 in
theorem c_X7_within (l : Launch) (dC : Nat → ClassId) (dI : Nat → Nat → Nat) (ad : Nat → Nat) (cA : Nat → ClassId) (σ : Sg) (a1 : Int32) (a2 : Int32) (a3 : Int32) (z : Int64 × Sg) (hB : f_X7_within σ a1 a2 a3 = some z) : Kl l dC dI ad cA yX7_within wsX7_within 1 20 [.ref (ad 45), .int a1, .int a2, .int a3] σ z := by
  refine mk_l (cc := cX7_within) (maxL := 8) (ret := (some .long)) (by decide) rfl (Nat.le_of_ble_eq_true rfl) ?_
  intro p e s m args below meth c Q H locs ls ⟨hx, hb, hr, hml, hown, hts, hlocks, hK, hN⟩ hQ hS hl
  have hown : s.vm.findClass RX7 = some m.cls := hown
  have hl : lv_has ls 8 [(0, .ref (ad 45)), (1, .int a1), (2, .int a2), (3, .int a3)] := hl
  have hk_f34 := hts (.fieldLink RX7 34 "ChanceNetsModel" "now" "[J") (by decide +kernel)
  have hin_X7 : ∀ w ∈ u_ws RX7 TX7 19, w ∈ wsX7_within := by decide +kernel
  have hk_f37 := hts (.fieldLink RX7 37 "ChanceNetsModel" "then" "[J") (by decide +kernel)
  have hk_f7 := hts (.fieldLink RX7 7 "ChanceNetsModel" "rows" "[I") (by decide +kernel)
  unfold f_X7_within at hB
  refine lv_iconst (v := (0 : Int32)) hx hb dX7_within_0 (by decide) ?_
  refine lv_istore (lv' := [(4, .int (0 : Int32)), (0, .ref (ad 45)), (1, .int a1), (2, .int a2), (3, .int a3)]) hx hb dX7_within_1 hl (by decide) rfl (fun ls hl => ?_)
  obtain ⟨t11, ht11, hB⟩ := bi_at hB
  refine wl_W (body := fun a => f_X7_within_B3 a2 a.1 a.2) (Hd := fun a : Int32 × Sg => ∀ (H : Heap) (locs : List Loc) (ls : Array Slot), ST dC dI ad cA s a.2 H locs → lv_has ls 8 [(0, .ref (ad 45)), (1, .int a1), (2, .int a2), (3, .int a3), (4, .int a.1)] → W p l e (RM 1 20) s m args below meth c H locs 0 0 Q (F0 m 3 ls [])) (Ex := fun b : Sg => ∀ (H : Heap) (locs : List Loc) (ls : Array Slot), ST dC dI ad cA s b H locs → lv_has ls 8 [(0, .ref (ad 45)), (1, .int a1), (3, .int a3)] → W p l e (RM 1 20) s m args below meth c H locs 0 0 Q (F0 m 34 ls [])) ?_ FU _ t11 ht11 ?_ H locs ls hS (lv_sub hl [1, 2, 3, 4, 0] rfl)
  · intro a r3 hB hI3 hE3 H locs ls hS hl
    obtain ⟨x1, σ2⟩ := a
    have hB : f_X7_within_B3 a2 x1 σ2 = some r3 := hB
    unfold f_X7_within_B3 at hB
    have hS : ST dC dI ad cA s σ2 H locs := hS
    have hl : lv_has ls 8 [(0, .ref (ad 45)), (1, .int a1), (2, .int a2), (3, .int a3), (4, .int x1)] := hl
    show W p l e (RM 1 20) s m args below meth c H locs 0 0 Q (F0 m 3 ls [])
    refine lv_iload hx hb dX7_within_3 (lv_at hl 4 rfl) ?_
    refine lv_bipush (v := (6 : Int32)) hx hb dX7_within_5 (by decide) ?_
    refine lv_icmp_ge (tgt := 34) hx hb dX7_within_7 (by decide) (fun c3 => ?_) (fun c3 => ?_)
    · have hB := it_t c3 hB
      exact hE3 _ (Option.some.inj hB).symm H locs ls hS (lv_sub hl [0, 1, 3] rfl)
    · have hB := it_f c3 hB
      refine lv_aload_n hx hb dX7_within_10 rfl (lv_at hl 0 rfl) ?_
      refine r_get (v := .ref (ad 52)) (C := RX7) (T := TX7) (N := 19) hx hb hts hin_X7 hown hK hS (by decide) e_45 rfl 15 (by decide) hk_f34 rfl rfl dX7_within_11 ?_
      refine lv_iload hx hb dX7_within_14 (lv_at hl 4 rfl) ?_
      refine lv_iload hx hb dX7_within_16 (lv_at hl 4 rfl) ?_
      refine lv_iload_n hx hb dX7_within_18 rfl (lv_at hl 2 rfl) ?_
      refine lv_icmp_ne (tgt := 26) hx hb dX7_within_19 (by decide) (fun c4 => ?_) (fun c4 => ?_)
      · have hB := it_f c4 hB
        refine lv_lconst (v := (0 : Int64)) hx hb dX7_within_26 (by decide) ?_
        obtain ⟨h5, hB⟩ := gd_at hB
        refine r_last hx hb hK hS h5 dX7_within_27 (fun H locs hS => ?_)
        obtain ⟨σ6, eσ6⟩ : ∃ t : Sg, t = pJ σ2 52 x1.toNatClampNeg (0 : Int64) := ⟨_, rfl⟩
        rw [← eσ6] at hS
        have hB := vl_at eσ6 hB
        obtain ⟨x7, ex7⟩ : ∃ y : Int32, y = x1 + (1 : Int32) := ⟨_, rfl⟩
        have hB := vl_at ex7 hB
        refine lv_iinc (v := x7) (lv' := [(4, .int x7), (0, .ref (ad 45)), (1, .int a1), (2, .int a2), (3, .int a3)]) hx hb dX7_within_28 hl (k := 4) rfl (by rw [ex7]; rfl) (by decide) rfl (fun ls hl => ?_)
        refine lv_goto (tgt := 3) hx hb dX7_within_31 (by decide) ?_
        exact hI3 _ (Option.some.inj hB).symm H locs ls hS (lv_sub hl [1, 2, 3, 4, 0] rfl)
      · have hB := it_t c4 hB
        refine lv_lconst (v := (1 : Int64)) hx hb dX7_within_22 (by decide) ?_
        refine lv_goto (tgt := 27) hx hb dX7_within_23 (by decide) ?_
        obtain ⟨h8, hB⟩ := gd_at hB
        refine r_last hx hb hK hS h8 dX7_within_27 (fun H locs hS => ?_)
        obtain ⟨σ9, eσ9⟩ : ∃ t : Sg, t = pJ σ2 52 x1.toNatClampNeg (1 : Int64) := ⟨_, rfl⟩
        rw [← eσ9] at hS
        have hB := vl_at eσ9 hB
        obtain ⟨x10, ex10⟩ : ∃ y : Int32, y = x1 + (1 : Int32) := ⟨_, rfl⟩
        have hB := vl_at ex10 hB
        refine lv_iinc (v := x10) (lv' := [(4, .int x10), (0, .ref (ad 45)), (1, .int a1), (2, .int a2), (3, .int a3)]) hx hb dX7_within_28 hl (k := 4) rfl (by rw [ex10]; rfl) (by decide) rfl (fun ls hl => ?_)
        refine lv_goto (tgt := 3) hx hb dX7_within_31 (by decide) ?_
        exact hI3 _ (Option.some.inj hB).symm H locs ls hS (lv_sub hl [1, 2, 3, 4, 0] rfl)
  · skip
    intro H locs ls hS hl
    have hS : ST dC dI ad cA s t11 H locs := hS
    have hl : lv_has ls 8 [(0, .ref (ad 45)), (1, .int a1), (3, .int a3)] := hl
    show W p l e (RM 1 20) s m args below meth c H locs 0 0 Q (F0 m 34 ls [])
    refine lv_iconst (v := (0 : Int32)) hx hb dX7_within_34 (by decide) ?_
    refine lv_istore (lv' := [(4, .int (0 : Int32)), (0, .ref (ad 45)), (1, .int a1), (3, .int a3)]) hx hb dX7_within_35 hl (by decide) rfl (fun ls hl => ?_)
    obtain ⟨t56, ht56, hB⟩ := bi_at hB
    refine wl_W (body := fun a => f_X7_within_B37 a1 a3 a.1 a.2) (Hd := fun a : Int32 × Sg => ∀ (H : Heap) (locs : List Loc) (ls : Array Slot), ST dC dI ad cA s a.2 H locs → lv_has ls 8 [(0, .ref (ad 45)), (1, .int a1), (3, .int a3), (4, .int a.1)] → W p l e (RM 1 20) s m args below meth c H locs 0 0 Q (F0 m 37 ls [])) (Ex := fun b : Sg => ∀ (H : Heap) (locs : List Loc) (ls : Array Slot), ST dC dI ad cA s b H locs → lv_has ls 8 [(0, .ref (ad 45))] → W p l e (RM 1 20) s m args below meth c H locs 0 0 Q (F0 m 217 ls [])) ?_ FU _ t56 ht56 ?_ H locs ls hS (lv_sub hl [1, 2, 3, 0] rfl)
    · intro a r37 hB hI37 hE37 H locs ls hS hl
      obtain ⟨x12, σ13⟩ := a
      have hB : f_X7_within_B37 a1 a3 x12 σ13 = some r37 := hB
      unfold f_X7_within_B37 at hB
      have hS : ST dC dI ad cA s σ13 H locs := hS
      have hl : lv_has ls 8 [(0, .ref (ad 45)), (1, .int a1), (3, .int a3), (4, .int x12)] := hl
      show W p l e (RM 1 20) s m args below meth c H locs 0 0 Q (F0 m 37 ls [])
      refine lv_iload hx hb dX7_within_37 (lv_at hl 3 rfl) ?_
      refine lv_iload_n hx hb dX7_within_39 rfl (lv_at hl 2 rfl) ?_
      refine lv_icmp_ge (tgt := 217) hx hb dX7_within_40 (by decide) (fun c14 => ?_) (fun c14 => ?_)
      · have hB := it_t c14 hB
        exact hE37 _ (Option.some.inj hB).symm H locs ls hS (lv_sub hl [0] rfl)
      · have hB := it_f c14 hB
        refine lv_iconst (v := (0 : Int32)) hx hb dX7_within_43 (by decide) ?_
        refine lv_istore (lv' := [(5, .int (0 : Int32)), (0, .ref (ad 45)), (1, .int a1), (3, .int a3), (4, .int x12)]) hx hb dX7_within_44 hl (by decide) rfl (fun ls hl => ?_)
        obtain ⟨t21, ht21, hB⟩ := bi_at hB
        refine wl_W (body := fun a => f_X7_within_B46 a.1 a.2) (Hd := fun a : Int32 × Sg => ∀ (H : Heap) (locs : List Loc) (ls : Array Slot), ST dC dI ad cA s a.2 H locs → lv_has ls 8 [(0, .ref (ad 45)), (1, .int a1), (3, .int a3), (4, .int x12), (5, .int a.1)] → W p l e (RM 1 20) s m args below meth c H locs 0 0 Q (F0 m 46 ls [])) (Ex := fun b : Sg => ∀ (H : Heap) (locs : List Loc) (ls : Array Slot), ST dC dI ad cA s b H locs → lv_has ls 8 [(0, .ref (ad 45)), (1, .int a1), (3, .int a3), (4, .int x12)] → W p l e (RM 1 20) s m args below meth c H locs 0 0 Q (F0 m 67 ls [])) ?_ FU _ t21 ht21 ?_ H locs ls hS (lv_sub hl [1, 2, 3, 4, 0] rfl)
        · intro a r46 hB hI46 hE46 H locs ls hS hl
          obtain ⟨x15, σ16⟩ := a
          have hB : f_X7_within_B46 x15 σ16 = some r46 := hB
          unfold f_X7_within_B46 at hB
          have hS : ST dC dI ad cA s σ16 H locs := hS
          have hl : lv_has ls 8 [(0, .ref (ad 45)), (1, .int a1), (3, .int a3), (4, .int x12), (5, .int x15)] := hl
          show W p l e (RM 1 20) s m args below meth c H locs 0 0 Q (F0 m 46 ls [])
          refine lv_iload hx hb dX7_within_46 (lv_at hl 4 rfl) ?_
          refine lv_bipush (v := (6 : Int32)) hx hb dX7_within_48 (by decide) ?_
          refine lv_icmp_ge (tgt := 67) hx hb dX7_within_50 (by decide) (fun c17 => ?_) (fun c17 => ?_)
          · have hB := it_t c17 hB
            exact hE46 _ (Option.some.inj hB).symm H locs ls hS (lv_sub hl [0, 1, 2, 3] rfl)
          · have hB := it_f c17 hB
            refine lv_aload_n hx hb dX7_within_53 rfl (lv_at hl 0 rfl) ?_
            refine r_get (v := .ref (ad 53)) (C := RX7) (T := TX7) (N := 19) hx hb hts hin_X7 hown hK hS (by decide) e_45 rfl 16 (by decide) hk_f37 rfl rfl dX7_within_54 ?_
            refine lv_iload hx hb dX7_within_57 (lv_at hl 4 rfl) ?_
            refine lv_lconst (v := (0 : Int64)) hx hb dX7_within_59 (by decide) ?_
            obtain ⟨h18, hB⟩ := gd_at hB
            refine r_last hx hb hK hS h18 dX7_within_60 (fun H locs hS => ?_)
            obtain ⟨σ19, eσ19⟩ : ∃ t : Sg, t = pJ σ16 53 x15.toNatClampNeg (0 : Int64) := ⟨_, rfl⟩
            rw [← eσ19] at hS
            have hB := vl_at eσ19 hB
            obtain ⟨x20, ex20⟩ : ∃ y : Int32, y = x15 + (1 : Int32) := ⟨_, rfl⟩
            have hB := vl_at ex20 hB
            refine lv_iinc (v := x20) (lv' := [(5, .int x20), (0, .ref (ad 45)), (1, .int a1), (3, .int a3), (4, .int x12)]) hx hb dX7_within_61 hl (k := 4) rfl (by rw [ex20]; rfl) (by decide) rfl (fun ls hl => ?_)
            refine lv_goto (tgt := 46) hx hb dX7_within_64 (by decide) ?_
            exact hI46 _ (Option.some.inj hB).symm H locs ls hS (lv_sub hl [1, 2, 3, 4, 0] rfl)
        · skip
          intro H locs ls hS hl
          have hS : ST dC dI ad cA s t21 H locs := hS
          have hl : lv_has ls 8 [(0, .ref (ad 45)), (1, .int a1), (3, .int a3), (4, .int x12)] := hl
          show W p l e (RM 1 20) s m args below meth c H locs 0 0 Q (F0 m 67 ls [])
          refine lv_iconst (v := (0 : Int32)) hx hb dX7_within_67 (by decide) ?_
          refine lv_istore (lv' := [(5, .int (0 : Int32)), (0, .ref (ad 45)), (1, .int a1), (3, .int a3), (4, .int x12)]) hx hb dX7_within_68 hl (by decide) rfl (fun ls hl => ?_)
          obtain ⟨t45, ht45, hB⟩ := bi_at hB
          refine wl_W (body := fun a => f_X7_within_B70 a1 a.1 a.2) (Hd := fun a : Int32 × Sg => ∀ (H : Heap) (locs : List Loc) (ls : Array Slot), ST dC dI ad cA s a.2 H locs → lv_has ls 8 [(0, .ref (ad 45)), (1, .int a1), (3, .int a3), (4, .int x12), (5, .int a.1)] → W p l e (RM 1 20) s m args below meth c H locs 0 0 Q (F0 m 70 ls [])) (Ex := fun b : Sg => ∀ (H : Heap) (locs : List Loc) (ls : Array Slot), ST dC dI ad cA s b H locs → lv_has ls 8 [(0, .ref (ad 45)), (1, .int a1), (3, .int a3), (4, .int x12)] → W p l e (RM 1 20) s m args below meth c H locs 0 0 Q (F0 m 181 ls [])) ?_ FU _ t45 ht45 ?_ H locs ls hS (lv_sub hl [1, 2, 3, 4, 0] rfl)
          · intro a r70 hB hI70 hE70 H locs ls hS hl
            obtain ⟨x22, σ23⟩ := a
            have hB : f_X7_within_B70 a1 x22 σ23 = some r70 := hB
            unfold f_X7_within_B70 at hB
            have hS : ST dC dI ad cA s σ23 H locs := hS
            have hl : lv_has ls 8 [(0, .ref (ad 45)), (1, .int a1), (3, .int a3), (4, .int x12), (5, .int x22)] := hl
            show W p l e (RM 1 20) s m args below meth c H locs 0 0 Q (F0 m 70 ls [])
            refine lv_iload hx hb dX7_within_70 (lv_at hl 4 rfl) ?_
            refine lv_aload_n hx hb dX7_within_72 rfl (lv_at hl 0 rfl) ?_
            obtain ⟨t24, ht24, hB⟩ := bi_at hB
            refine r_ViP ⟨hx, hb, hml, hown, hts⟩ (c_X7_lines l dC dI ad cA σ23 t24 ht24) (cwV 0 hts gX7_within_X7_lines rfl rfl rfl (by decide +kernel) ⟨Nat.le_of_ble_eq_true rfl, Nat.le_of_ble_eq_true rfl⟩) hK hN hS (by decide) e_45 rfl rfl hl.1 rfl (Nat.le_of_ble_eq_true rfl) dX7_within_73 ⟨Nat.le_refl _, Nat.le_refl _⟩ (fun H locs hS => ?_)
            refine lv_icmp_ge (tgt := 181) hx hb dX7_within_76 (by decide) (fun c25 => ?_) (fun c25 => ?_)
            · have hB := it_t c25 hB
              exact hE70 _ (Option.some.inj hB).symm H locs ls hS (lv_sub hl [0, 1, 2, 3] rfl)
            · have hB := it_f c25 hB
              refine lv_aload_n hx hb dX7_within_79 rfl (lv_at hl 0 rfl) ?_
              refine r_get (v := .ref (ad 46)) (C := RX7) (T := TX7) (N := 19) hx hb hts hin_X7 hown hK hS (by decide) e_45 rfl 0 (by decide) hk_f7 rfl rfl dX7_within_80 ?_
              refine lv_iconst (v := (1 : Int32)) hx hb dX7_within_83 (by decide) ?_
              refine lv_iload hx hb dX7_within_84 (lv_at hl 4 rfl) ?_
              refine lv_iadd hx hb dX7_within_86 ?_
              obtain ⟨h26, hB⟩ := gd_at hB
              refine r_iald hx hb hK hS h26 dX7_within_87 ?_
              refine lv_topi (fun x27 ex27 => ?_)
              have hB := vl_at ex27 hB
              refine lv_istore (lv' := [(6, .int x27), (0, .ref (ad 45)), (1, .int a1), (3, .int a3), (4, .int x12), (5, .int x22)]) hx hb dX7_within_88 hl (by decide) rfl (fun ls hl => ?_)
              refine lv_aload_n hx hb dX7_within_90 rfl (lv_at hl 1 rfl) ?_
              refine r_get (v := .ref (ad 46)) (C := RX7) (T := TX7) (N := 19) hx hb hts hin_X7 hown hK hS (by decide) e_45 rfl 0 (by decide) hk_f7 rfl rfl dX7_within_91 ?_
              refine lv_bipush (v := (11 : Int32)) hx hb dX7_within_94 (by decide) ?_
              refine lv_iload hx hb dX7_within_96 (lv_at hl 5 rfl) ?_
              refine lv_iadd hx hb dX7_within_98 ?_
              obtain ⟨h28, hB⟩ := gd_at hB
              refine r_iald hx hb hK hS h28 dX7_within_99 ?_
              refine lv_topi (fun x29 ex29 => ?_)
              have hB := vl_at ex29 hB
              refine lv_istore (lv' := [(7, .int x29), (6, .int x27), (0, .ref (ad 45)), (1, .int a1), (3, .int a3), (4, .int x12), (5, .int x22)]) hx hb dX7_within_100 hl (by decide) rfl (fun ls hl => ?_)
              refine lv_iload_n hx hb dX7_within_102 rfl (lv_at hl 3 rfl) ?_
              refine lv_iload hx hb dX7_within_103 (lv_at hl 1 rfl) ?_
              refine lv_ishr hx hb dX7_within_105 ?_
              refine lv_iload_n hx hb dX7_within_106 rfl (lv_at hl 3 rfl) ?_
              refine lv_iload hx hb dX7_within_107 (lv_at hl 0 rfl) ?_
              refine lv_ishr hx hb dX7_within_109 ?_
              refine lv_iand hx hb dX7_within_110 ?_
              refine lv_iconst (v := (1 : Int32)) hx hb dX7_within_111 (by decide) ?_
              refine lv_iand hx hb dX7_within_112 ?_
              refine lv_iconst (v := (1 : Int32)) hx hb dX7_within_113 (by decide) ?_
              refine lv_icmp_ne (tgt := 175) hx hb dX7_within_114 (by decide) (fun c30 => ?_) (fun c30 => ?_)
              · have hB := it_f c30 hB
                obtain ⟨x31, ex31⟩ : ∃ y : Int32, y = x22 + (1 : Int32) := ⟨_, rfl⟩
                have hB := vl_at ex31 hB
                refine lv_iinc (v := x31) (lv' := [(5, .int x31), (7, .int x29), (6, .int x27), (0, .ref (ad 45)), (1, .int a1), (3, .int a3), (4, .int x12)]) hx hb dX7_within_175 hl (k := 6) rfl (by rw [ex31]; rfl) (by decide) rfl (fun ls hl => ?_)
                refine lv_goto (tgt := 70) hx hb dX7_within_178 (by decide) ?_
                exact hI70 _ (Option.some.inj hB).symm H locs ls hS (lv_sub hl [3, 4, 5, 6, 0] rfl)
              · have hB := it_t c30 hB
                refine lv_aload_n hx hb dX7_within_117 rfl (lv_at hl 2 rfl) ?_
                refine r_get (v := .ref (ad 53)) (C := RX7) (T := TX7) (N := 19) hx hb hts hin_X7 hown hK hS (by decide) e_45 rfl 16 (by decide) hk_f37 rfl rfl dX7_within_118 ?_
                refine lv_iload hx hb dX7_within_121 (lv_at hl 1 rfl) ?_
                refine lv_dup2_11 hx hb dX7_within_123 rfl rfl ?_
                obtain ⟨h32, hB⟩ := gd_at hB
                refine r_lald hx hb hK hS h32 dX7_within_124 ?_
                refine lv_aload_n hx hb dX7_within_125 rfl (lv_at hl 2 rfl) ?_
                refine r_get (v := .ref (ad 52)) (C := RX7) (T := TX7) (N := 19) hx hb hts hin_X7 hown hK hS (by decide) e_45 rfl 15 (by decide) hk_f34 rfl rfl dX7_within_126 ?_
                refine lv_iload hx hb dX7_within_129 (lv_at hl 0 rfl) ?_
                obtain ⟨h33, hB⟩ := gd_at hB
                refine r_lald hx hb hK hS h33 dX7_within_131 ?_
                refine lv_aload_n hx hb dX7_within_132 rfl (lv_at hl 2 rfl) ?_
                refine r_get (v := .ref (ad 46)) (C := RX7) (T := TX7) (N := 19) hx hb hts hin_X7 hown hK hS (by decide) e_45 rfl 0 (by decide) hk_f7 rfl rfl dX7_within_133 ?_
                refine lv_bipush (v := (21 : Int32)) hx hb dX7_within_136 (by decide) ?_
                refine lv_iload hx hb dX7_within_138 (lv_at hl 6 rfl) ?_
                refine lv_iadd hx hb dX7_within_140 ?_
                obtain ⟨h34, hB⟩ := gd_at hB
                refine r_iald hx hb hK hS h34 dX7_within_141 ?_
                refine lv_i2l hx hb dX7_within_142 rfl ?_
                refine lv_lmul hx hb dX7_within_143 ?_
                refine lv_ladd hx hb dX7_within_144 ?_
                refine lv_topl (fun x35 ex35 => ?_)
                have hB := vl_at ex35 hB
                obtain ⟨h36, hB⟩ := gd_at hB
                refine r_last hx hb hK hS h36 dX7_within_145 (fun H locs hS => ?_)
                obtain ⟨σ37, eσ37⟩ : ∃ t : Sg, t = pJ σ23 53 x27.toNatClampNeg x35 := ⟨_, rfl⟩
                rw [← eσ37] at hS
                have hB := vl_at eσ37 hB
                refine lv_aload_n hx hb dX7_within_146 rfl (lv_at hl 2 rfl) ?_
                refine r_get (v := .ref (ad 53)) (C := RX7) (T := TX7) (N := 19) hx hb hts hin_X7 hown hK hS (by decide) e_45 rfl 16 (by decide) hk_f37 rfl rfl dX7_within_147 ?_
                refine lv_iload hx hb dX7_within_150 (lv_at hl 0 rfl) ?_
                refine lv_dup2_11 hx hb dX7_within_152 rfl rfl ?_
                obtain ⟨h38, hB⟩ := gd_at hB
                refine r_lald hx hb hK hS h38 dX7_within_153 ?_
                refine lv_aload_n hx hb dX7_within_154 rfl (lv_at hl 2 rfl) ?_
                refine r_get (v := .ref (ad 52)) (C := RX7) (T := TX7) (N := 19) hx hb hts hin_X7 hown hK hS (by decide) e_45 rfl 15 (by decide) hk_f34 rfl rfl dX7_within_155 ?_
                refine lv_iload hx hb dX7_within_158 (lv_at hl 1 rfl) ?_
                obtain ⟨h39, hB⟩ := gd_at hB
                refine r_lald hx hb hK hS h39 dX7_within_160 ?_
                refine lv_aload_n hx hb dX7_within_161 rfl (lv_at hl 2 rfl) ?_
                refine r_get (v := .ref (ad 46)) (C := RX7) (T := TX7) (N := 19) hx hb hts hin_X7 hown hK hS (by decide) e_45 rfl 0 (by decide) hk_f7 rfl rfl dX7_within_162 ?_
                refine lv_bipush (v := (21 : Int32)) hx hb dX7_within_165 (by decide) ?_
                refine lv_iload hx hb dX7_within_167 (lv_at hl 6 rfl) ?_
                refine lv_iadd hx hb dX7_within_169 ?_
                obtain ⟨h40, hB⟩ := gd_at hB
                refine r_iald hx hb hK hS h40 dX7_within_170 ?_
                refine lv_i2l hx hb dX7_within_171 rfl ?_
                refine lv_lmul hx hb dX7_within_172 ?_
                refine lv_ladd hx hb dX7_within_173 ?_
                refine lv_topl (fun x41 ex41 => ?_)
                have hB := vl_at ex41 hB
                obtain ⟨h42, hB⟩ := gd_at hB
                refine r_last hx hb hK hS h42 dX7_within_174 (fun H locs hS => ?_)
                obtain ⟨σ43, eσ43⟩ : ∃ t : Sg, t = pJ σ37 53 x29.toNatClampNeg x41 := ⟨_, rfl⟩
                rw [← eσ43] at hS
                have hB := vl_at eσ43 hB
                obtain ⟨x44, ex44⟩ : ∃ y : Int32, y = x22 + (1 : Int32) := ⟨_, rfl⟩
                have hB := vl_at ex44 hB
                refine lv_iinc (v := x44) (lv' := [(5, .int x44), (7, .int x29), (6, .int x27), (0, .ref (ad 45)), (1, .int a1), (3, .int a3), (4, .int x12)]) hx hb dX7_within_175 hl (k := 6) rfl (by rw [ex44]; rfl) (by decide) rfl (fun ls hl => ?_)
                refine lv_goto (tgt := 70) hx hb dX7_within_178 (by decide) ?_
                exact hI70 _ (Option.some.inj hB).symm H locs ls hS (lv_sub hl [3, 4, 5, 6, 0] rfl)
          · skip
            intro H locs ls hS hl
            have hS : ST dC dI ad cA s t45 H locs := hS
            have hl : lv_has ls 8 [(0, .ref (ad 45)), (1, .int a1), (3, .int a3), (4, .int x12)] := hl
            show W p l e (RM 1 20) s m args below meth c H locs 0 0 Q (F0 m 181 ls [])
            refine lv_iconst (v := (0 : Int32)) hx hb dX7_within_181 (by decide) ?_
            refine lv_istore (lv' := [(5, .int (0 : Int32)), (0, .ref (ad 45)), (1, .int a1), (3, .int a3), (4, .int x12)]) hx hb dX7_within_182 hl (by decide) rfl (fun ls hl => ?_)
            obtain ⟨t54, ht54, hB⟩ := bi_at hB
            refine wl_W (body := fun a => f_X7_within_B184 a.1 a.2) (Hd := fun a : Int32 × Sg => ∀ (H : Heap) (locs : List Loc) (ls : Array Slot), ST dC dI ad cA s a.2 H locs → lv_has ls 8 [(0, .ref (ad 45)), (1, .int a1), (3, .int a3), (4, .int x12), (5, .int a.1)] → W p l e (RM 1 20) s m args below meth c H locs 0 0 Q (F0 m 184 ls [])) (Ex := fun b : Sg => ∀ (H : Heap) (locs : List Loc) (ls : Array Slot), ST dC dI ad cA s b H locs → lv_has ls 8 [(0, .ref (ad 45)), (1, .int a1), (3, .int a3), (4, .int x12)] → W p l e (RM 1 20) s m args below meth c H locs 0 0 Q (F0 m 211 ls [])) ?_ FU _ t54 ht54 ?_ H locs ls hS (lv_sub hl [1, 2, 3, 4, 0] rfl)
            · intro a r184 hB hI184 hE184 H locs ls hS hl
              obtain ⟨x46, σ47⟩ := a
              have hB : f_X7_within_B184 x46 σ47 = some r184 := hB
              unfold f_X7_within_B184 at hB
              have hS : ST dC dI ad cA s σ47 H locs := hS
              have hl : lv_has ls 8 [(0, .ref (ad 45)), (1, .int a1), (3, .int a3), (4, .int x12), (5, .int x46)] := hl
              show W p l e (RM 1 20) s m args below meth c H locs 0 0 Q (F0 m 184 ls [])
              refine lv_iload hx hb dX7_within_184 (lv_at hl 4 rfl) ?_
              refine lv_bipush (v := (6 : Int32)) hx hb dX7_within_186 (by decide) ?_
              refine lv_icmp_ge (tgt := 211) hx hb dX7_within_188 (by decide) (fun c48 => ?_) (fun c48 => ?_)
              · have hB := it_t c48 hB
                exact hE184 _ (Option.some.inj hB).symm H locs ls hS (lv_sub hl [0, 1, 2, 3] rfl)
              · have hB := it_f c48 hB
                refine lv_aload_n hx hb dX7_within_191 rfl (lv_at hl 0 rfl) ?_
                refine r_get (v := .ref (ad 52)) (C := RX7) (T := TX7) (N := 19) hx hb hts hin_X7 hown hK hS (by decide) e_45 rfl 15 (by decide) hk_f34 rfl rfl dX7_within_192 ?_
                refine lv_iload hx hb dX7_within_195 (lv_at hl 4 rfl) ?_
                refine lv_aload_n hx hb dX7_within_197 rfl (lv_at hl 0 rfl) ?_
                refine r_get (v := .ref (ad 53)) (C := RX7) (T := TX7) (N := 19) hx hb hts hin_X7 hown hK hS (by decide) e_45 rfl 16 (by decide) hk_f37 rfl rfl dX7_within_198 ?_
                refine lv_iload hx hb dX7_within_201 (lv_at hl 4 rfl) ?_
                obtain ⟨h49, hB⟩ := gd_at hB
                refine r_lald hx hb hK hS h49 dX7_within_203 ?_
                refine lv_topl (fun x50 ex50 => ?_)
                have hB := vl_at ex50 hB
                obtain ⟨h51, hB⟩ := gd_at hB
                refine r_last hx hb hK hS h51 dX7_within_204 (fun H locs hS => ?_)
                obtain ⟨σ52, eσ52⟩ : ∃ t : Sg, t = pJ σ47 52 x46.toNatClampNeg x50 := ⟨_, rfl⟩
                rw [← eσ52] at hS
                have hB := vl_at eσ52 hB
                obtain ⟨x53, ex53⟩ : ∃ y : Int32, y = x46 + (1 : Int32) := ⟨_, rfl⟩
                have hB := vl_at ex53 hB
                refine lv_iinc (v := x53) (lv' := [(5, .int x53), (0, .ref (ad 45)), (1, .int a1), (3, .int a3), (4, .int x12)]) hx hb dX7_within_205 hl (k := 4) rfl (by rw [ex53]; rfl) (by decide) rfl (fun ls hl => ?_)
                refine lv_goto (tgt := 184) hx hb dX7_within_208 (by decide) ?_
                exact hI184 _ (Option.some.inj hB).symm H locs ls hS (lv_sub hl [1, 2, 3, 4, 0] rfl)
            · skip
              intro H locs ls hS hl
              have hS : ST dC dI ad cA s t54 H locs := hS
              have hl : lv_has ls 8 [(0, .ref (ad 45)), (1, .int a1), (3, .int a3), (4, .int x12)] := hl
              show W p l e (RM 1 20) s m args below meth c H locs 0 0 Q (F0 m 211 ls [])
              obtain ⟨x55, ex55⟩ : ∃ y : Int32, y = x12 + (1 : Int32) := ⟨_, rfl⟩
              have hB := vl_at ex55 hB
              refine lv_iinc (v := x55) (lv' := [(4, .int x55), (0, .ref (ad 45)), (1, .int a1), (3, .int a3)]) hx hb dX7_within_211 hl (k := 3) rfl (by rw [ex55]; rfl) (by decide) rfl (fun ls hl => ?_)
              refine lv_goto (tgt := 37) hx hb dX7_within_214 (by decide) ?_
              exact hI37 _ (Option.some.inj hB).symm H locs ls hS (lv_sub hl [1, 2, 3, 0] rfl)
    · skip
      intro H locs ls hS hl
      have hS : ST dC dI ad cA s t56 H locs := hS
      have hl : lv_has ls 8 [(0, .ref (ad 45))] := hl
      show W p l e (RM 1 20) s m args below meth c H locs 0 0 Q (F0 m 217 ls [])
      refine lv_lconst (v := (0 : Int64)) hx hb dX7_within_217 (by decide) ?_
      refine lv_lstore (lv' := [(4, .long (0 : Int64)), (0, .ref (ad 45))]) hx hb dX7_within_218 hl (by decide) rfl (fun ls hl => ?_)
      refine lv_iconst (v := (0 : Int32)) hx hb dX7_within_220 (by decide) ?_
      refine lv_istore (lv' := [(6, .int (0 : Int32)), (4, .long (0 : Int64)), (0, .ref (ad 45))]) hx hb dX7_within_221 hl (by decide) rfl (fun ls hl => ?_)
      obtain ⟨t63, ht63, hB⟩ := bi_at hB
      refine wl_W (body := fun a => f_X7_within_B223 t56 a.1 a.2) (Hd := fun a : Int64 × Int32 => ∀ (H : Heap) (locs : List Loc) (ls : Array Slot), ST dC dI ad cA s t56 H locs → lv_has ls 8 [(0, .ref (ad 45)), (4, .long a.1), (6, .int a.2)] → W p l e (RM 1 20) s m args below meth c H locs 0 0 Q (F0 m 223 ls [])) (Ex := fun b : Int64 => ∀ (H : Heap) (locs : List Loc) (ls : Array Slot), ST dC dI ad cA s t56 H locs → lv_has ls 8 [(4, .long b)] → W p l e (RM 1 20) s m args below meth c H locs 0 0 Q (F0 m 248 ls [])) ?_ FU _ t63 ht63 ?_ H locs ls hS (lv_sub hl [2, 1, 0] rfl)
      · intro a r223 hB hI223 hE223 H locs ls hS hl
        obtain ⟨x57, x58⟩ := a
        have hB : f_X7_within_B223 t56 x57 x58 = some r223 := hB
        unfold f_X7_within_B223 at hB
        have hS : ST dC dI ad cA s t56 H locs := hS
        have hl : lv_has ls 8 [(0, .ref (ad 45)), (4, .long x57), (6, .int x58)] := hl
        show W p l e (RM 1 20) s m args below meth c H locs 0 0 Q (F0 m 223 ls [])
        refine lv_iload hx hb dX7_within_223 (lv_at hl 2 rfl) ?_
        refine lv_bipush (v := (6 : Int32)) hx hb dX7_within_225 (by decide) ?_
        refine lv_icmp_ge (tgt := 248) hx hb dX7_within_227 (by decide) (fun c59 => ?_) (fun c59 => ?_)
        · have hB := it_t c59 hB
          exact hE223 _ (Option.some.inj hB).symm H locs ls hS (lv_sub hl [1] rfl)
        · have hB := it_f c59 hB
          refine lv_lload hx hb dX7_within_230 (lv_at hl 1 rfl) ?_
          refine lv_aload_n hx hb dX7_within_232 rfl (lv_at hl 0 rfl) ?_
          refine r_get (v := .ref (ad 52)) (C := RX7) (T := TX7) (N := 19) hx hb hts hin_X7 hown hK hS (by decide) e_45 rfl 15 (by decide) hk_f34 rfl rfl dX7_within_233 ?_
          refine lv_iload hx hb dX7_within_236 (lv_at hl 2 rfl) ?_
          obtain ⟨h60, hB⟩ := gd_at hB
          refine r_lald hx hb hK hS h60 dX7_within_238 ?_
          refine lv_ladd hx hb dX7_within_239 ?_
          refine lv_topl (fun x61 ex61 => ?_)
          have hB := vl_at ex61 hB
          refine lv_lstore (lv' := [(4, .long x61), (0, .ref (ad 45)), (6, .int x58)]) hx hb dX7_within_240 hl (by decide) rfl (fun ls hl => ?_)
          obtain ⟨x62, ex62⟩ : ∃ y : Int32, y = x58 + (1 : Int32) := ⟨_, rfl⟩
          have hB := vl_at ex62 hB
          refine lv_iinc (v := x62) (lv' := [(6, .int x62), (4, .long x61), (0, .ref (ad 45))]) hx hb dX7_within_242 hl (k := 2) rfl (by rw [ex62]; rfl) (by decide) rfl (fun ls hl => ?_)
          refine lv_goto (tgt := 223) hx hb dX7_within_245 (by decide) ?_
          exact hI223 _ (Option.some.inj hB).symm H locs ls hS (lv_sub hl [2, 1, 0] rfl)
      · skip
        intro H locs ls hS hl
        have hS : ST dC dI ad cA s t56 H locs := hS
        have hl : lv_has ls 8 [(4, .long t63)] := hl
        show W p l e (RM 1 20) s m args below meth c H locs 0 0 Q (F0 m 248 ls [])
        refine lv_lload hx hb dX7_within_248 (lv_at hl 0 rfl) ?_
        subst hQ
        exact r_lret hx hb hr hK hS hB hlocks dX7_within_250
set_option maxHeartbeats 4000000 in
set_option maxRecDepth 100000 in
theorem c_X7_walks (l : Launch) (dC : Nat → ClassId) (dI : Nat → Nat → Nat) (ad : Nat → Nat) (cA : Nat → ClassId) (σ : Sg) (a1 : Int32) (a2 : Int32) (a3 : Int32) (z : Int64 × Sg) (hB : f_X7_walks σ a1 a2 a3 = some z) : Kl l dC dI ad cA yX7_walks wsX7_walks 2 47 [.ref (ad 45), .int a1, .int a2, .int a3] σ z := by
  refine mk_l (cc := cX7_walks) (maxL := 8) (ret := (some .long)) (by decide) rfl (Nat.le_of_ble_eq_true rfl) ?_
  intro p e s m args below meth c Q H locs ls ⟨hx, hb, hr, hml, hown, hts, hlocks, hK, hN⟩ hQ hS hl
  have hown : s.vm.findClass RX7 = some m.cls := hown
  have hl : lv_has ls 8 [(0, .ref (ad 45)), (1, .int a1), (2, .int a2), (3, .int a3)] := hl
  have hk_c149 := hts (.constantLong RX7 149 (-1)) (by decide +kernel)
  have hk_c173 := hts (.constantLong RX7 173 (6)) (by decide +kernel)
  have hk_c114 := hts (.constantLong RX7 114 (2)) (by decide +kernel)
  have hk_f13 := hts (.fieldLink RX7 13 "ChanceNetsModel" "nodes" "I") (by decide +kernel)
  have hin_X7 : ∀ w ∈ u_ws RX7 TX7 19, w ∈ wsX7_walks := by decide +kernel
  have hk_f34 := hts (.fieldLink RX7 34 "ChanceNetsModel" "now" "[J") (by decide +kernel)
  unfold f_X7_walks at hB
  refine lv_aload_n hx hb dX7_walks_0 rfl (lv_at hl 0 rfl) ?_
  refine lv_iload_n hx hb dX7_walks_1 rfl (lv_at hl 1 rfl) ?_
  obtain ⟨t1, ht1, hB⟩ := bi_at hB
  refine r_ViP ⟨hx, hb, hml, hown, hts⟩ (c_X7_isNode l dC dI ad cA σ a1 t1 ht1) (cwV 1 hts gX7_walks_X7_isNode rfl rfl rfl (by decide +kernel) ⟨Nat.le_of_ble_eq_true rfl, Nat.le_of_ble_eq_true rfl⟩) hK hN hS (by decide) e_45 rfl rfl hl.1 rfl (Nat.le_of_ble_eq_true rfl) dX7_walks_2 ⟨Nat.le_refl _, Nat.le_refl _⟩ (fun H locs hS => ?_)
  refine lv_if_eq (tgt := 32) hx hb dX7_walks_5 (by decide) (fun c2 => ?_) (fun c2 => ?_)
  · have hB := it_t c2 hB
    refine lv_ldc2 (v := (-1 : Int64)) hx hb hown hk_c149 dX7_walks_32 ?_
    subst hQ
    exact r_lret hx hb hr hK hS hB hlocks dX7_walks_35
  · have hB := it_f c2 hB
    refine lv_iload_n hx hb dX7_walks_8 rfl (lv_at hl 2 rfl) ?_
    refine lv_i2l hx hb dX7_walks_9 rfl ?_
    refine lv_lconst (v := (0 : Int64)) hx hb dX7_walks_10 (by decide) ?_
    refine lv_ldc2 (v := (6 : Int64)) hx hb hown hk_c173 dX7_walks_11 ?_
    obtain ⟨t3, ht3, hB⟩ := bi_at hB
    refine r_SiP ⟨hx, hb, hml, hown, hts⟩ (c_X7_in l dC dI ad cA σ a2.toInt64 (0 : Int64) (6 : Int64) t3 ht3) (va_cwS 3 hts gX7_walks_X7_in rfl rfl rfl (by decide +kernel) ⟨Nat.le_of_ble_eq_true rfl, Nat.le_of_ble_eq_true rfl⟩) hK hN hS rfl hl.1 rfl (Nat.le_of_ble_eq_true rfl) dX7_walks_14 ⟨Nat.le_refl _, Nat.le_refl _⟩ (fun H locs hS => ?_)
    refine lv_if_eq (tgt := 32) hx hb dX7_walks_17 (by decide) (fun c4 => ?_) (fun c4 => ?_)
    · have hB := it_t c4 hB
      refine lv_ldc2 (v := (-1 : Int64)) hx hb hown hk_c149 dX7_walks_32 ?_
      subst hQ
      exact r_lret hx hb hr hK hS hB hlocks dX7_walks_35
    · have hB := it_f c4 hB
      refine lv_iload_n hx hb dX7_walks_20 rfl (lv_at hl 3 rfl) ?_
      refine lv_i2l hx hb dX7_walks_21 rfl ?_
      refine lv_lconst (v := (0 : Int64)) hx hb dX7_walks_22 (by decide) ?_
      refine lv_ldc2 (v := (2 : Int64)) hx hb hown hk_c114 dX7_walks_23 ?_
      obtain ⟨t5, ht5, hB⟩ := bi_at hB
      refine r_SiP ⟨hx, hb, hml, hown, hts⟩ (c_X7_in l dC dI ad cA σ a3.toInt64 (0 : Int64) (2 : Int64) t5 ht5) (va_cwS 3 hts gX7_walks_X7_in rfl rfl rfl (by decide +kernel) ⟨Nat.le_of_ble_eq_true rfl, Nat.le_of_ble_eq_true rfl⟩) hK hN hS rfl hl.1 rfl (Nat.le_of_ble_eq_true rfl) dX7_walks_26 ⟨Nat.le_refl _, Nat.le_refl _⟩ (fun H locs hS => ?_)
      refine lv_if_ne (tgt := 36) hx hb dX7_walks_29 (by decide) (fun c6 => ?_) (fun c6 => ?_)
      · have hB := it_f c6 hB
        refine lv_iconst (v := (1 : Int32)) hx hb dX7_walks_36 (by decide) ?_
        refine lv_aload_n hx hb dX7_walks_37 rfl (lv_at hl 0 rfl) ?_
        refine r_get (v := .int (gI σ 17)) (C := RX7) (T := TX7) (N := 19) hx hb hts hin_X7 hown hK hS (by decide) e_45 rfl 1 (by decide) hk_f13 rfl rfl dX7_walks_38 ?_
        refine lv_ishl hx hb dX7_walks_41 ?_
        refine lv_iconst (v := (1 : Int32)) hx hb dX7_walks_42 (by decide) ?_
        refine lv_isub hx hb dX7_walks_43 ?_
        refine lv_topi (fun x7 ex7 => ?_)
        have hB := vl_at ex7 hB
        refine lv_istore (lv' := [(4, .int x7), (0, .ref (ad 45)), (1, .int a1), (2, .int a2), (3, .int a3)]) hx hb dX7_walks_44 hl (by decide) rfl (fun ls hl => ?_)
        refine lv_iload_n hx hb dX7_walks_46 rfl (lv_at hl 4 rfl) ?_
        refine lv_iconst (v := (2 : Int32)) hx hb dX7_walks_47 (by decide) ?_
        refine lv_icmp_ge (tgt := 77) hx hb dX7_walks_48 (by decide) (fun c8 => ?_) (fun c8 => ?_)
        · have hB := it_t c8 hB
          refine lv_lconst (v := (0 : Int64)) hx hb dX7_walks_77 (by decide) ?_
          refine lv_lstore (lv' := [(5, .long (0 : Int64)), (4, .int x7), (0, .ref (ad 45)), (1, .int a1), (2, .int a2), (3, .int a3)]) hx hb dX7_walks_78 hl (by decide) rfl (fun ls hl => ?_)
          refine lv_iconst (v := (1 : Int32)) hx hb dX7_walks_80 (by decide) ?_
          refine lv_istore (lv' := [(7, .int (1 : Int32)), (5, .long (0 : Int64)), (4, .int x7), (0, .ref (ad 45)), (1, .int a1), (2, .int a2), (3, .int a3)]) hx hb dX7_walks_81 hl (by decide) rfl (fun ls hl => ?_)
          obtain ⟨t23, ht23, hB⟩ := bi_at hB
          refine wl_W (body := fun a => f_X7_walks_B83 a1 a2 x7 a.1 a.2.1 a.2.2) (Hd := fun a : Int64 × Int32 × Sg => ∀ (H : Heap) (locs : List Loc) (ls : Array Slot), ST dC dI ad cA s a.2.2 H locs → lv_has ls 8 [(0, .ref (ad 45)), (1, .int a1), (2, .int a2), (4, .int x7), (5, .long a.1), (7, .int a.2.1)] → W p l e (RM 2 47) s m args below meth c H locs 0 0 Q (F0 m 83 ls [])) (Ex := fun b : Int64 × Sg => ∀ (H : Heap) (locs : List Loc) (ls : Array Slot), ST dC dI ad cA s b.2 H locs → lv_has ls 8 [(5, .long b.1)] → W p l e (RM 2 47) s m args below meth c H locs 0 0 Q (F0 m 146 ls [])) ?_ FU _ t23 ht23 ?_ H locs ls hS (lv_sub hl [3, 4, 5, 2, 1, 0] rfl)
          · intro a r83 hB hI83 hE83 H locs ls hS hl
            obtain ⟨x9, x10, σ11⟩ := a
            have hB : f_X7_walks_B83 a1 a2 x7 x9 x10 σ11 = some r83 := hB
            unfold f_X7_walks_B83 at hB
            have hS : ST dC dI ad cA s σ11 H locs := hS
            have hl : lv_has ls 8 [(0, .ref (ad 45)), (1, .int a1), (2, .int a2), (4, .int x7), (5, .long x9), (7, .int x10)] := hl
            show W p l e (RM 2 47) s m args below meth c H locs 0 0 Q (F0 m 83 ls [])
            refine lv_iload hx hb dX7_walks_83 (lv_at hl 5 rfl) ?_
            refine lv_iload hx hb dX7_walks_85 (lv_at hl 3 rfl) ?_
            refine lv_icmp_gt (tgt := 146) hx hb dX7_walks_87 (by decide) (fun c12 => ?_) (fun c12 => ?_)
            · have hB := it_t c12 hB
              exact hE83 _ (Option.some.inj hB).symm H locs ls hS (lv_sub hl [4] rfl)
            · have hB := it_f c12 hB
              refine lv_iload hx hb dX7_walks_90 (lv_at hl 5 rfl) ?_
              refine lv_iload_n hx hb dX7_walks_92 rfl (lv_at hl 1 rfl) ?_
              refine lv_ishr hx hb dX7_walks_93 ?_
              refine lv_iconst (v := (1 : Int32)) hx hb dX7_walks_94 (by decide) ?_
              refine lv_iand hx hb dX7_walks_95 ?_
              refine lv_iconst (v := (1 : Int32)) hx hb dX7_walks_96 (by decide) ?_
              refine lv_icmp_ne (tgt := 140) hx hb dX7_walks_97 (by decide) (fun c13 => ?_) (fun c13 => ?_)
              · have hB := it_f c13 hB
                obtain ⟨x14, ex14⟩ : ∃ y : Int32, y = x10 + (1 : Int32) := ⟨_, rfl⟩
                have hB := vl_at ex14 hB
                refine lv_iinc (v := x14) (lv' := [(7, .int x14), (0, .ref (ad 45)), (1, .int a1), (2, .int a2), (4, .int x7), (5, .long x9)]) hx hb dX7_walks_140 hl (k := 5) rfl (by rw [ex14]; rfl) (by decide) rfl (fun ls hl => ?_)
                refine lv_goto (tgt := 83) hx hb dX7_walks_143 (by decide) ?_
                exact hI83 _ (Option.some.inj hB).symm H locs ls hS (lv_sub hl [1, 2, 3, 4, 5, 0] rfl)
              · have hB := it_t c13 hB
                refine lv_lload hx hb dX7_walks_100 (lv_at hl 4 rfl) ?_
                refine lv_aload_n hx hb dX7_walks_102 rfl (lv_at hl 0 rfl) ?_
                refine r_get (v := .int (gI σ11 17)) (C := RX7) (T := TX7) (N := 19) hx hb hts hin_X7 hown hK hS (by decide) e_45 rfl 1 (by decide) hk_f13 rfl rfl dX7_walks_103 ?_
                refine lv_iload hx hb dX7_walks_106 (lv_at hl 5 rfl) ?_
                obtain ⟨t15, ht15, hB⟩ := bi_at hB
                refine r_SiP ⟨hx, hb, hml, hown, hts⟩ (c_X7_ones l dC dI ad cA σ11 x10 t15 ht15) (va_cwS 1 hts gX7_walks_X7_ones rfl rfl rfl (by decide +kernel) ⟨Nat.le_of_ble_eq_true rfl, Nat.le_of_ble_eq_true rfl⟩) hK hN hS rfl hl.1 rfl (Nat.le_of_ble_eq_true rfl) dX7_walks_108 ⟨Nat.le_refl _, Nat.le_refl _⟩ (fun H locs hS => ?_)
                refine lv_isub hx hb dX7_walks_111 ?_
                refine lv_iconst (v := (2 : Int32)) hx hb dX7_walks_112 (by decide) ?_
                refine lv_irem hx hb dX7_walks_113 (by decide) ?_
                refine lv_if_ne (tgt := 128) hx hb dX7_walks_114 (by decide) (fun c16 => ?_) (fun c16 => ?_)
                · have hB := it_f c16 hB
                  refine lv_aload_n hx hb dX7_walks_128 rfl (lv_at hl 0 rfl) ?_
                  refine lv_iload hx hb dX7_walks_129 (lv_at hl 5 rfl) ?_
                  refine lv_iload_n hx hb dX7_walks_131 rfl (lv_at hl 1 rfl) ?_
                  refine lv_iload_n hx hb dX7_walks_132 rfl (lv_at hl 2 rfl) ?_
                  obtain ⟨t17, ht17, hB⟩ := bi_at hB
                  refine r_Vl ⟨hx, hb, hml, hown, hts⟩ (c_X7_within l dC dI ad cA σ11 x10 a1 a2 t17 ht17) (cwV 3 hts gX7_walks_X7_within rfl rfl rfl (by decide +kernel) ⟨Nat.le_of_ble_eq_true rfl, Nat.le_of_ble_eq_true rfl⟩) hK hN hS (by decide) e_45 rfl rfl hl.1 rfl (Nat.le_of_ble_eq_true rfl) dX7_walks_133 ⟨Nat.le_refl _, Nat.le_refl _⟩ (fun H locs hS => ?_)
                  refine lv_lneg hx hb dX7_walks_136 ?_
                  refine lv_ladd hx hb dX7_walks_137 ?_
                  refine lv_topl (fun x18 ex18 => ?_)
                  have hB := vl_at ex18 hB
                  refine lv_lstore (lv' := [(5, .long x18), (0, .ref (ad 45)), (1, .int a1), (2, .int a2), (4, .int x7), (7, .int x10)]) hx hb dX7_walks_138 hl (by decide) rfl (fun ls hl => ?_)
                  obtain ⟨x19, ex19⟩ : ∃ y : Int32, y = x10 + (1 : Int32) := ⟨_, rfl⟩
                  have hB := vl_at ex19 hB
                  refine lv_iinc (v := x19) (lv' := [(7, .int x19), (5, .long x18), (0, .ref (ad 45)), (1, .int a1), (2, .int a2), (4, .int x7)]) hx hb dX7_walks_140 hl (k := 5) rfl (by rw [ex19]; rfl) (by decide) rfl (fun ls hl => ?_)
                  refine lv_goto (tgt := 83) hx hb dX7_walks_143 (by decide) ?_
                  exact hI83 _ (Option.some.inj hB).symm H locs ls hS (lv_sub hl [2, 3, 4, 5, 1, 0] rfl)
                · have hB := it_t c16 hB
                  refine lv_aload_n hx hb dX7_walks_117 rfl (lv_at hl 0 rfl) ?_
                  refine lv_iload hx hb dX7_walks_118 (lv_at hl 5 rfl) ?_
                  refine lv_iload_n hx hb dX7_walks_120 rfl (lv_at hl 1 rfl) ?_
                  refine lv_iload_n hx hb dX7_walks_121 rfl (lv_at hl 2 rfl) ?_
                  obtain ⟨t20, ht20, hB⟩ := bi_at hB
                  refine r_Vl ⟨hx, hb, hml, hown, hts⟩ (c_X7_within l dC dI ad cA σ11 x10 a1 a2 t20 ht20) (cwV 3 hts gX7_walks_X7_within rfl rfl rfl (by decide +kernel) ⟨Nat.le_of_ble_eq_true rfl, Nat.le_of_ble_eq_true rfl⟩) hK hN hS (by decide) e_45 rfl rfl hl.1 rfl (Nat.le_of_ble_eq_true rfl) dX7_walks_122 ⟨Nat.le_refl _, Nat.le_refl _⟩ (fun H locs hS => ?_)
                  refine lv_goto (tgt := 137) hx hb dX7_walks_125 (by decide) ?_
                  refine lv_ladd hx hb dX7_walks_137 ?_
                  refine lv_topl (fun x21 ex21 => ?_)
                  have hB := vl_at ex21 hB
                  refine lv_lstore (lv' := [(5, .long x21), (0, .ref (ad 45)), (1, .int a1), (2, .int a2), (4, .int x7), (7, .int x10)]) hx hb dX7_walks_138 hl (by decide) rfl (fun ls hl => ?_)
                  obtain ⟨x22, ex22⟩ : ∃ y : Int32, y = x10 + (1 : Int32) := ⟨_, rfl⟩
                  have hB := vl_at ex22 hB
                  refine lv_iinc (v := x22) (lv' := [(7, .int x22), (5, .long x21), (0, .ref (ad 45)), (1, .int a1), (2, .int a2), (4, .int x7)]) hx hb dX7_walks_140 hl (k := 5) rfl (by rw [ex22]; rfl) (by decide) rfl (fun ls hl => ?_)
                  refine lv_goto (tgt := 83) hx hb dX7_walks_143 (by decide) ?_
                  exact hI83 _ (Option.some.inj hB).symm H locs ls hS (lv_sub hl [2, 3, 4, 5, 1, 0] rfl)
          · skip
            intro H locs ls hS hl
            have hS : ST dC dI ad cA s t23.2 H locs := hS
            have hl : lv_has ls 8 [(5, .long t23.1)] := hl
            show W p l e (RM 2 47) s m args below meth c H locs 0 0 Q (F0 m 146 ls [])
            refine lv_lload hx hb dX7_walks_146 (lv_at hl 0 rfl) ?_
            subst hQ
            exact r_lret hx hb hr hK hS hB hlocks dX7_walks_148
        · have hB := it_f c8 hB
          refine lv_aload_n hx hb dX7_walks_51 rfl (lv_at hl 1 rfl) ?_
          refine lv_iload hx hb dX7_walks_52 (lv_at hl 0 rfl) ?_
          refine lv_iload_n hx hb dX7_walks_54 rfl (lv_at hl 2 rfl) ?_
          refine lv_iload_n hx hb dX7_walks_55 rfl (lv_at hl 3 rfl) ?_
          obtain ⟨t24, ht24, hB⟩ := bi_at hB
          refine r_Vl ⟨hx, hb, hml, hown, hts⟩ (c_X7_within l dC dI ad cA σ x7 a1 a2 t24 ht24) (cwV 3 hts gX7_walks_X7_within rfl rfl rfl (by decide +kernel) ⟨Nat.le_of_ble_eq_true rfl, Nat.le_of_ble_eq_true rfl⟩) hK hN hS (by decide) e_45 rfl rfl hl.1 rfl (Nat.le_of_ble_eq_true rfl) dX7_walks_56 ⟨Nat.le_refl _, Nat.le_refl _⟩ (fun H locs hS => ?_)
          refine lv_lstore (lv' := [(5, .long t24.1), (4, .int x7), (0, .ref (ad 45)), (1, .int a1), (2, .int a2), (3, .int a3)]) hx hb dX7_walks_59 hl (by decide) rfl (fun ls hl => ?_)
          refine lv_iload_n hx hb dX7_walks_61 rfl (lv_at hl 5 rfl) ?_
          refine lv_if_ne (tgt := 70) hx hb dX7_walks_62 (by decide) (fun c25 => ?_) (fun c25 => ?_)
          · have hB := it_f c25 hB
            refine lv_aload_n hx hb dX7_walks_70 rfl (lv_at hl 2 rfl) ?_
            refine r_get (v := .ref (ad 52)) (C := RX7) (T := TX7) (N := 19) hx hb hts hin_X7 hown hK hS (by decide) e_45 rfl 15 (by decide) hk_f34 rfl rfl dX7_walks_71 ?_
            refine lv_iload_n hx hb dX7_walks_74 rfl (lv_at hl 3 rfl) ?_
            obtain ⟨h26, hB⟩ := gd_at hB
            refine r_lald hx hb hK hS h26 dX7_walks_75 ?_
            subst hQ
            exact r_lret hx hb hr hK hS hB hlocks dX7_walks_76
          · have hB := it_t c25 hB
            refine lv_lload hx hb dX7_walks_65 (lv_at hl 0 rfl) ?_
            refine lv_goto (tgt := 76) hx hb dX7_walks_67 (by decide) ?_
            subst hQ
            exact r_lret hx hb hr hK hS hB hlocks dX7_walks_76
      · have hB := it_t c6 hB
        refine lv_ldc2 (v := (-1 : Int64)) hx hb hown hk_c149 dX7_walks_32 ?_
        subst hQ
        exact r_lret hx hb hr hK hS hB hlocks dX7_walks_35
