set_option maxHeartbeats 4000000 in
set_option maxRecDepth 100000 in
theorem c_X7_trees (l : Launch) (dC : Nat → ClassId) (dI : Nat → Nat → Nat) (ad : Nat → Nat) (cA : Nat → ClassId) (σ : Sg)  (z : Int64 × Sg) (hB : f_X7_trees σ = some z) : Kl l dC dI ad cA yX7_trees wsX7_trees 4 93 [.ref (ad 45)] σ z := by
  refine mk_l (cc := cX7_trees) (maxL := 1) (ret := (some .long)) (by decide) rfl (Nat.le_of_ble_eq_true rfl) ?_
  intro p e s m args below meth c Q H locs ls ⟨hx, hb, hr, hml, hown, hts, hlocks, hK, hN⟩ hQ hS hl
  have hown : s.vm.findClass RX7 = some m.cls := hown
  have hl : lv_has ls 1 [(0, .ref (ad 45))] := hl
  unfold f_X7_trees at hB
  refine lv_aload_n hx hb dX7_trees_0 rfl (lv_at hl 0 rfl) ?_
  refine lv_bipush (v := (-9 : Int32)) hx hb dX7_trees_1 (by decide) ?_
  obtain ⟨t1, ht1, hB⟩ := bi_at hB
  refine r_Vl ⟨hx, hb, hml, hown, hts⟩ (c_X7_treesBut l dC dI ad cA σ (-9 : Int32) t1 ht1) (cwV 1 hts gX7_trees_X7_treesBut rfl rfl rfl (by decide +kernel) ⟨Nat.le_of_ble_eq_true rfl, Nat.le_of_ble_eq_true rfl⟩) hK hN hS (by decide) e_45 rfl rfl hl.1 rfl (Nat.le_of_ble_eq_true rfl) dX7_trees_3 ⟨Nat.le_refl _, Nat.le_refl _⟩ (fun H locs hS => ?_)
  subst hQ
  exact r_lret hx hb hr hK hS hB hlocks dX7_trees_6
set_option maxHeartbeats 4000000 in
set_option maxRecDepth 100000 in
theorem c_X7_treesWith (l : Launch) (dC : Nat → ClassId) (dI : Nat → Nat → Nat) (ad : Nat → Nat) (cA : Nat → ClassId) (σ : Sg) (a1 : Int32) (z : Int64 × Sg) (hB : f_X7_treesWith σ a1 = some z) : Kl l dC dI ad cA yX7_treesWith wsX7_treesWith 4 93 [.ref (ad 45), .int a1] σ z := by
  refine mk_l (cc := cX7_treesWith) (maxL := 2) (ret := (some .long)) (by decide) rfl (Nat.le_of_ble_eq_true rfl) ?_
  intro p e s m args below meth c Q H locs ls ⟨hx, hb, hr, hml, hown, hts, hlocks, hK, hN⟩ hQ hS hl
  have hown : s.vm.findClass RX7 = some m.cls := hown
  have hl : lv_has ls 2 [(0, .ref (ad 45)), (1, .int a1)] := hl
  unfold f_X7_treesWith at hB
  refine lv_aload_n hx hb dX7_treesWith_0 rfl (lv_at hl 0 rfl) ?_
  refine lv_bipush (v := (-9 : Int32)) hx hb dX7_treesWith_1 (by decide) ?_
  obtain ⟨t1, ht1, hB⟩ := bi_at hB
  refine r_Vl ⟨hx, hb, hml, hown, hts⟩ (c_X7_treesBut l dC dI ad cA σ (-9 : Int32) t1 ht1) (cwV 1 hts gX7_treesWith_X7_treesBut rfl rfl rfl (by decide +kernel) ⟨Nat.le_of_ble_eq_true rfl, Nat.le_of_ble_eq_true rfl⟩) hK hN hS (by decide) e_45 rfl rfl hl.1 rfl (Nat.le_of_ble_eq_true rfl) dX7_treesWith_3 ⟨Nat.le_refl _, Nat.le_refl _⟩ (fun H locs hS => ?_)
  refine lv_aload_n hx hb dX7_treesWith_6 rfl (lv_at hl 0 rfl) ?_
  refine lv_iload_n hx hb dX7_treesWith_7 rfl (lv_at hl 1 rfl) ?_
  obtain ⟨t2, ht2, hB⟩ := bi_at hB
  refine r_Vl ⟨hx, hb, hml, hown, hts⟩ (c_X7_treesBut l dC dI ad cA t1.2 a1 t2 ht2) (cwV 1 hts gX7_treesWith_X7_treesBut rfl rfl rfl (by decide +kernel) ⟨Nat.le_of_ble_eq_true rfl, Nat.le_of_ble_eq_true rfl⟩) hK hN hS (by decide) e_45 rfl rfl hl.1 rfl (Nat.le_of_ble_eq_true rfl) dX7_treesWith_8 ⟨Nat.le_refl _, Nat.le_refl _⟩ (fun H locs hS => ?_)
  refine lv_lsub hx hb dX7_treesWith_11 ?_
  subst hQ
  exact r_lret hx hb hr hK hS hB hlocks dX7_treesWith_12
set_option maxHeartbeats 4000000 in
set_option maxRecDepth 100000 in
theorem c_X7_share (l : Launch) (dC : Nat → ClassId) (dI : Nat → Nat → Nat) (ad : Nat → Nat) (cA : Nat → ClassId) (σ : Sg) (a1 : Int32) (a2 : Int32) (z : Int64 × Sg) (hB : f_X7_share σ a1 a2 = some z) : Kl l dC dI ad cA yX7_share wsX7_share 5 114 [.ref (ad 45), .int a1, .int a2] σ z := by
  refine mk_l (cc := cX7_share) (maxL := 3) (ret := (some .long)) (by decide) rfl (Nat.le_of_ble_eq_true rfl) ?_
  intro p e s m args below meth c Q H locs ls ⟨hx, hb, hr, hml, hown, hts, hlocks, hK, hN⟩ hQ hS hl
  have hown : s.vm.findClass RX7 = some m.cls := hown
  have hl : lv_has ls 3 [(0, .ref (ad 45)), (1, .int a1), (2, .int a2)] := hl
  have hk_c149 := hts (.constantLong RX7 149 (-1)) (by decide +kernel)
  have hk_c165 := hts (.constantLong RX7 165 (-2)) (by decide +kernel)
  unfold f_X7_share at hB
  refine lv_aload_n hx hb dX7_share_0 rfl (lv_at hl 0 rfl) ?_
  refine lv_iload_n hx hb dX7_share_1 rfl (lv_at hl 1 rfl) ?_
  obtain ⟨t1, ht1, hB⟩ := bi_at hB
  refine r_ViP ⟨hx, hb, hml, hown, hts⟩ (c_X7_isLine l dC dI ad cA σ a1 t1 ht1) (cwV 1 hts gX7_share_X7_isLine rfl rfl rfl (by decide +kernel) ⟨Nat.le_of_ble_eq_true rfl, Nat.le_of_ble_eq_true rfl⟩) hK hN hS (by decide) e_45 rfl rfl hl.1 rfl (Nat.le_of_ble_eq_true rfl) dX7_share_2 ⟨Nat.le_refl _, Nat.le_refl _⟩ (fun H locs hS => ?_)
  refine lv_if_eq (tgt := 18) hx hb dX7_share_5 (by decide) (fun c2 => ?_) (fun c2 => ?_)
  · have hB := it_t c2 hB
    refine lv_ldc2 (v := (-1 : Int64)) hx hb hown hk_c149 dX7_share_18 ?_
    subst hQ
    exact r_lret hx hb hr hK hS hB hlocks dX7_share_21
  · have hB := it_f c2 hB
    refine lv_iload_n hx hb dX7_share_8 rfl (lv_at hl 2 rfl) ?_
    refine lv_i2l hx hb dX7_share_9 rfl ?_
    refine lv_lconst (v := (0 : Int64)) hx hb dX7_share_10 (by decide) ?_
    refine lv_lconst (v := (1 : Int64)) hx hb dX7_share_11 (by decide) ?_
    obtain ⟨t3, ht3, hB⟩ := bi_at hB
    refine r_SiP ⟨hx, hb, hml, hown, hts⟩ (c_X7_in l dC dI ad cA σ a2.toInt64 (0 : Int64) (1 : Int64) t3 ht3) (va_cwS 3 hts gX7_share_X7_in rfl rfl rfl (by decide +kernel) ⟨Nat.le_of_ble_eq_true rfl, Nat.le_of_ble_eq_true rfl⟩) hK hN hS rfl hl.1 rfl (Nat.le_of_ble_eq_true rfl) dX7_share_12 ⟨Nat.le_refl _, Nat.le_refl _⟩ (fun H locs hS => ?_)
    refine lv_if_ne (tgt := 22) hx hb dX7_share_15 (by decide) (fun c4 => ?_) (fun c4 => ?_)
    · have hB := it_f c4 hB
      refine lv_aload_n hx hb dX7_share_22 rfl (lv_at hl 0 rfl) ?_
      refine lv_bipush (v := (-9 : Int32)) hx hb dX7_share_23 (by decide) ?_
      obtain ⟨t5, ht5, hB⟩ := bi_at hB
      refine r_Vi ⟨hx, hb, hml, hown, hts⟩ (c_X7_hangs l dC dI ad cA σ (-9 : Int32) t5 ht5) (cwV 1 hts gX7_share_X7_hangs rfl rfl rfl (by decide +kernel) ⟨Nat.le_of_ble_eq_true rfl, Nat.le_of_ble_eq_true rfl⟩) hK hN hS (by decide) e_45 rfl rfl hl.1 rfl (Nat.le_of_ble_eq_true rfl) dX7_share_25 ⟨Nat.le_refl _, Nat.le_refl _⟩ (fun H locs hS => ?_)
      refine lv_if_eq (tgt := 49) hx hb dX7_share_28 (by decide) (fun c6 => ?_) (fun c6 => ?_)
      · have hB := it_t c6 hB
        refine lv_ldc2 (v := (-2 : Int64)) hx hb hown hk_c165 dX7_share_49 ?_
        subst hQ
        exact r_lret hx hb hr hK hS hB hlocks dX7_share_52
      · have hB := it_f c6 hB
        refine lv_aload_n hx hb dX7_share_31 rfl (lv_at hl 0 rfl) ?_
        refine lv_iload_n hx hb dX7_share_32 rfl (lv_at hl 1 rfl) ?_
        obtain ⟨t7, ht7, hB⟩ := bi_at hB
        refine r_Vl ⟨hx, hb, hml, hown, hts⟩ (c_X7_treesWith l dC dI ad cA t5.2 a1 t7 ht7) (cwV 1 hts gX7_share_X7_treesWith rfl rfl rfl (by decide +kernel) ⟨Nat.le_of_ble_eq_true rfl, Nat.le_of_ble_eq_true rfl⟩) hK hN hS (by decide) e_45 rfl rfl hl.1 rfl (Nat.le_of_ble_eq_true rfl) dX7_share_33 ⟨Nat.le_refl _, Nat.le_refl _⟩ (fun H locs hS => ?_)
        refine lv_aload_n hx hb dX7_share_36 rfl (lv_at hl 0 rfl) ?_
        refine lv_bipush (v := (-9 : Int32)) hx hb dX7_share_37 (by decide) ?_
        obtain ⟨t8, ht8, hB⟩ := bi_at hB
        refine r_Vl ⟨hx, hb, hml, hown, hts⟩ (c_X7_treesBut l dC dI ad cA t7.2 (-9 : Int32) t8 ht8) (cwV 1 hts gX7_share_X7_treesBut rfl rfl rfl (by decide +kernel) ⟨Nat.le_of_ble_eq_true rfl, Nat.le_of_ble_eq_true rfl⟩) hK hN hS (by decide) e_45 rfl rfl hl.1 rfl (Nat.le_of_ble_eq_true rfl) dX7_share_39 ⟨Nat.le_refl _, Nat.le_refl _⟩ (fun H locs hS => ?_)
        refine lv_iload_n hx hb dX7_share_42 rfl (lv_at hl 2 rfl) ?_
        obtain ⟨t9, ht9, hB⟩ := bi_at hB
        refine r_SlP ⟨hx, hb, hml, hown, hts⟩ (c_X7_least l dC dI ad cA t8.2 t7.1 t8.1 a2 t9 ht9) (va_cwS 3 hts gX7_share_X7_least rfl rfl rfl (by decide +kernel) ⟨Nat.le_of_ble_eq_true rfl, Nat.le_of_ble_eq_true rfl⟩) hK hN hS rfl hl.1 rfl (Nat.le_of_ble_eq_true rfl) dX7_share_43 ⟨Nat.le_refl _, Nat.le_refl _⟩ (fun H locs hS => ?_)
        refine lv_goto (tgt := 52) hx hb dX7_share_46 (by decide) ?_
        subst hQ
        exact r_lret hx hb hr hK hS hB hlocks dX7_share_52
    · have hB := it_t c4 hB
      refine lv_ldc2 (v := (-1 : Int64)) hx hb hown hk_c149 dX7_share_18 ?_
      subst hQ
      exact r_lret hx hb hr hK hS hB hlocks dX7_share_21
set_option maxHeartbeats 4000000 in
set_option maxRecDepth 100000 in
theorem c_X7_rank (l : Launch) (dC : Nat → ClassId) (dI : Nat → Nat → Nat) (ad : Nat → Nat) (cA : Nat → ClassId) (σ : Sg) (a1 : Int32) (z : Int32 × Sg) (hB : f_X7_rank σ a1 = some z) : Ki l dC dI ad cA yX7_rank wsX7_rank 5 114 [.ref (ad 45), .int a1] σ z := by
  refine mk_i (cc := cX7_rank) (maxL := 5) (ret := (some .int)) (by decide) rfl (Nat.le_of_ble_eq_true rfl) ?_
  intro p e s m args below meth c Q H locs ls ⟨hx, hb, hr, hml, hown, hts, hlocks, hK, hN⟩ hQ hS hl
  have hown : s.vm.findClass RX7 = some m.cls := hown
  have hl : lv_has ls 5 [(0, .ref (ad 45)), (1, .int a1)] := hl
  unfold f_X7_rank at hB
  refine lv_iload_n hx hb dX7_rank_0 rfl (lv_at hl 1 rfl) ?_
  refine lv_if_ge (tgt := 6) hx hb dX7_rank_1 (by decide) (fun c1 => ?_) (fun c1 => ?_)
  · have hB := it_t c1 hB
    refine lv_aload_n hx hb dX7_rank_6 rfl (lv_at hl 0 rfl) ?_
    refine lv_bipush (v := (-9 : Int32)) hx hb dX7_rank_7 (by decide) ?_
    obtain ⟨t2, ht2, hB⟩ := bi_at hB
    refine r_Vi ⟨hx, hb, hml, hown, hts⟩ (c_X7_hangs l dC dI ad cA σ (-9 : Int32) t2 ht2) (cwV 1 hts gX7_rank_X7_hangs rfl rfl rfl (by decide +kernel) ⟨Nat.le_of_ble_eq_true rfl, Nat.le_of_ble_eq_true rfl⟩) hK hN hS (by decide) e_45 rfl rfl hl.1 rfl (Nat.le_of_ble_eq_true rfl) dX7_rank_9 ⟨Nat.le_refl _, Nat.le_refl _⟩ (fun H locs hS => ?_)
    refine lv_if_ne (tgt := 18) hx hb dX7_rank_12 (by decide) (fun c3 => ?_) (fun c3 => ?_)
    · have hB := it_f c3 hB
      refine lv_iconst (v := (0 : Int32)) hx hb dX7_rank_18 (by decide) ?_
      refine lv_istore_n (lv' := [(2, .int (0 : Int32)), (0, .ref (ad 45)), (1, .int a1)]) hx hb dX7_rank_19 rfl hl (by decide) rfl (fun ls hl => ?_)
      obtain ⟨t28, ht28, hB⟩ := bi_at hB
      refine wl_W (body := fun a => f_X7_rank_B20 a1 a.1 a.2) (Hd := fun a : Int32 × Sg => ∀ (H : Heap) (locs : List Loc) (ls : Array Slot), ST dC dI ad cA s a.2 H locs → lv_has ls 5 [(0, .ref (ad 45)), (1, .int a1), (2, .int a.1)] → W p l e (RM 5 114) s m args below meth c H locs 0 0 Q (F0 m 20 ls [])) (Ex := fun b : (Sg) ⊕ (Int32 × Sg) => Sum.elim (fun b : Sg => ∀ (H : Heap) (locs : List Loc) (ls : Array Slot), ST dC dI ad cA s b H locs → lv_has ls 5 [] → W p l e (RM 5 114) s m args below meth c H locs 0 0 Q (F0 m 105 ls [])) (fun v => some v = some z) b) ?_ FU _ t28 ht28 ?_ H locs ls hS (lv_sub hl [1, 2, 0] rfl)
      · intro a r20 hB hI20 hE20 H locs ls hS hl
        obtain ⟨x4, σ5⟩ := a
        have hB : f_X7_rank_B20 a1 x4 σ5 = some r20 := hB
        unfold f_X7_rank_B20 at hB
        have hS : ST dC dI ad cA s σ5 H locs := hS
        have hl : lv_has ls 5 [(0, .ref (ad 45)), (1, .int a1), (2, .int x4)] := hl
        show W p l e (RM 5 114) s m args below meth c H locs 0 0 Q (F0 m 20 ls [])
        refine lv_iload_n hx hb dX7_rank_20 rfl (lv_at hl 2 rfl) ?_
        refine lv_aload_n hx hb dX7_rank_21 rfl (lv_at hl 0 rfl) ?_
        obtain ⟨t6, ht6, hB⟩ := bi_at hB
        refine r_ViP ⟨hx, hb, hml, hown, hts⟩ (c_X7_lines l dC dI ad cA σ5 t6 ht6) (cwV 0 hts gX7_rank_X7_lines rfl rfl rfl (by decide +kernel) ⟨Nat.le_of_ble_eq_true rfl, Nat.le_of_ble_eq_true rfl⟩) hK hN hS (by decide) e_45 rfl rfl hl.1 rfl (Nat.le_of_ble_eq_true rfl) dX7_rank_22 ⟨Nat.le_refl _, Nat.le_refl _⟩ (fun H locs hS => ?_)
        refine lv_icmp_ge (tgt := 105) hx hb dX7_rank_25 (by decide) (fun c7 => ?_) (fun c7 => ?_)
        · have hB := it_t c7 hB
          exact hE20 _ (Option.some.inj hB).symm H locs ls hS (lv_sub hl [] rfl)
        · have hB := it_f c7 hB
          refine lv_iconst (v := (0 : Int32)) hx hb dX7_rank_28 (by decide) ?_
          refine lv_istore_n (lv' := [(3, .int (0 : Int32)), (0, .ref (ad 45)), (1, .int a1), (2, .int x4)]) hx hb dX7_rank_29 rfl hl (by decide) rfl (fun ls hl => ?_)
          refine lv_iconst (v := (0 : Int32)) hx hb dX7_rank_30 (by decide) ?_
          refine lv_istore (lv' := [(4, .int (0 : Int32)), (3, .int (0 : Int32)), (0, .ref (ad 45)), (1, .int a1), (2, .int x4)]) hx hb dX7_rank_31 hl (by decide) rfl (fun ls hl => ?_)
          obtain ⟨t25, ht25, hB⟩ := bi_at hB
          refine wl_W (body := fun a => f_X7_rank_B33 x4 a.1 a.2.1 a.2.2) (Hd := fun a : Int32 × Int32 × Sg => ∀ (H : Heap) (locs : List Loc) (ls : Array Slot), ST dC dI ad cA s a.2.2 H locs → lv_has ls 5 [(0, .ref (ad 45)), (1, .int a1), (2, .int x4), (3, .int a.1), (4, .int a.2.1)] → W p l e (RM 5 114) s m args below meth c H locs 0 0 Q (F0 m 33 ls [])) (Ex := fun b : Int32 × Sg => ∀ (H : Heap) (locs : List Loc) (ls : Array Slot), ST dC dI ad cA s b.2 H locs → lv_has ls 5 [(0, .ref (ad 45)), (1, .int a1), (2, .int x4), (3, .int b.1)] → W p l e (RM 5 114) s m args below meth c H locs 0 0 Q (F0 m 92 ls [])) ?_ FU _ t25 ht25 ?_ H locs ls hS (lv_sub hl [2, 3, 4, 1, 0] rfl)
          · intro a r33 hB hI33 hE33 H locs ls hS hl
            obtain ⟨x8, x9, σ10⟩ := a
            have hB : f_X7_rank_B33 x4 x8 x9 σ10 = some r33 := hB
            unfold f_X7_rank_B33 at hB
            have hS : ST dC dI ad cA s σ10 H locs := hS
            have hl : lv_has ls 5 [(0, .ref (ad 45)), (1, .int a1), (2, .int x4), (3, .int x8), (4, .int x9)] := hl
            show W p l e (RM 5 114) s m args below meth c H locs 0 0 Q (F0 m 33 ls [])
            refine lv_iload hx hb dX7_rank_33 (lv_at hl 4 rfl) ?_
            refine lv_aload_n hx hb dX7_rank_35 rfl (lv_at hl 0 rfl) ?_
            obtain ⟨t11, ht11, hB⟩ := bi_at hB
            refine r_ViP ⟨hx, hb, hml, hown, hts⟩ (c_X7_lines l dC dI ad cA σ10 t11 ht11) (cwV 0 hts gX7_rank_X7_lines rfl rfl rfl (by decide +kernel) ⟨Nat.le_of_ble_eq_true rfl, Nat.le_of_ble_eq_true rfl⟩) hK hN hS (by decide) e_45 rfl rfl hl.1 rfl (Nat.le_of_ble_eq_true rfl) dX7_rank_36 ⟨Nat.le_refl _, Nat.le_refl _⟩ (fun H locs hS => ?_)
            refine lv_icmp_ge (tgt := 92) hx hb dX7_rank_39 (by decide) (fun c12 => ?_) (fun c12 => ?_)
            · have hB := it_t c12 hB
              exact hE33 _ (Option.some.inj hB).symm H locs ls hS (lv_sub hl [0, 1, 2, 3] rfl)
            · have hB := it_f c12 hB
              refine lv_iload_n hx hb dX7_rank_42 rfl (lv_at hl 3 rfl) ?_
              refine lv_aload_n hx hb dX7_rank_43 rfl (lv_at hl 0 rfl) ?_
              refine lv_iload hx hb dX7_rank_44 (lv_at hl 4 rfl) ?_
              obtain ⟨t13, ht13, hB⟩ := bi_at hB
              refine r_Vl ⟨hx, hb, hml, hown, hts⟩ (c_X7_treesWith l dC dI ad cA σ10 x9 t13 ht13) (cwV 1 hts gX7_rank_X7_treesWith rfl rfl rfl (by decide +kernel) ⟨Nat.le_of_ble_eq_true rfl, Nat.le_of_ble_eq_true rfl⟩) hK hN hS (by decide) e_45 rfl rfl hl.1 rfl (Nat.le_of_ble_eq_true rfl) dX7_rank_46 ⟨Nat.le_refl _, Nat.le_refl _⟩ (fun H locs hS => ?_)
              refine lv_aload_n hx hb dX7_rank_49 rfl (lv_at hl 0 rfl) ?_
              refine lv_iload_n hx hb dX7_rank_50 rfl (lv_at hl 2 rfl) ?_
              obtain ⟨t14, ht14, hB⟩ := bi_at hB
              refine r_Vl ⟨hx, hb, hml, hown, hts⟩ (c_X7_treesWith l dC dI ad cA t13.2 x4 t14 ht14) (cwV 1 hts gX7_rank_X7_treesWith rfl rfl rfl (by decide +kernel) ⟨Nat.le_of_ble_eq_true rfl, Nat.le_of_ble_eq_true rfl⟩) hK hN hS (by decide) e_45 rfl rfl hl.1 rfl (Nat.le_of_ble_eq_true rfl) dX7_rank_51 ⟨Nat.le_refl _, Nat.le_refl _⟩ (fun H locs hS => ?_)
              refine W.lcmp hx hb dX7_rank_54 ?_
              have hJ79 : ∀ (σ16 : Sg) (H : Heap) (locs : List Loc) (ls : Array Slot), f_X7_rank_J79 x8 x9 σ16 = some r33 → ST dC dI ad cA s σ16 H locs → lv_has ls 5 [(0, .ref (ad 45)), (1, .int a1), (2, .int x4), (4, .int x9)] → W p l e (RM 5 114) s m args below meth c H locs 0 0 Q (F0 m 79 ls [.int x8]) := by
                intro σ16 H locs ls hB hS hl
                unfold f_X7_rank_J79 at hB
                refine lv_iconst (v := (1 : Int32)) hx hb dX7_rank_79 (by decide) ?_
                refine lv_goto (tgt := 84) hx hb dX7_rank_80 (by decide) ?_
                refine lv_iadd hx hb dX7_rank_84 ?_
                refine lv_topi (fun x17 ex17 => ?_)
                have hB := vl_at ex17 hB
                refine lv_istore_n (lv' := [(3, .int x17), (0, .ref (ad 45)), (1, .int a1), (2, .int x4), (4, .int x9)]) hx hb dX7_rank_85 rfl hl (by decide) rfl (fun ls hl => ?_)
                obtain ⟨x18, ex18⟩ : ∃ y : Int32, y = x9 + (1 : Int32) := ⟨_, rfl⟩
                have hB := vl_at ex18 hB
                refine lv_iinc (v := x18) (lv' := [(4, .int x18), (3, .int x17), (0, .ref (ad 45)), (1, .int a1), (2, .int x4)]) hx hb dX7_rank_86 hl (k := 4) rfl (by rw [ex18]; rfl) (by decide) rfl (fun ls hl => ?_)
                refine lv_goto (tgt := 33) hx hb dX7_rank_89 (by decide) ?_
                exact hI33 _ (Option.some.inj hB).symm H locs ls hS (lv_sub hl [2, 3, 4, 1, 0] rfl)
              refine lv_if_gt (tgt := 79) hx hb dX7_rank_55 (by decide) (fun c15 => ?_) (fun c15 => ?_)
              · have hB := it_t ((lg_cmp_gt _ _).mp c15) hB
                exact hJ79 t14.2 H locs ls hB hS (lv_sub hl [0, 1, 2, 4] rfl)
              · have hB := it_f (fun q => c15 ((lg_cmp_gt _ _).mpr q)) hB
                refine lv_aload_n hx hb dX7_rank_58 rfl (lv_at hl 0 rfl) ?_
                refine lv_iload hx hb dX7_rank_59 (lv_at hl 4 rfl) ?_
                obtain ⟨t19, ht19, hB⟩ := bi_at hB
                refine r_Vl ⟨hx, hb, hml, hown, hts⟩ (c_X7_treesWith l dC dI ad cA t14.2 x9 t19 ht19) (cwV 1 hts gX7_rank_X7_treesWith rfl rfl rfl (by decide +kernel) ⟨Nat.le_of_ble_eq_true rfl, Nat.le_of_ble_eq_true rfl⟩) hK hN hS (by decide) e_45 rfl rfl hl.1 rfl (Nat.le_of_ble_eq_true rfl) dX7_rank_61 ⟨Nat.le_refl _, Nat.le_refl _⟩ (fun H locs hS => ?_)
                refine lv_aload_n hx hb dX7_rank_64 rfl (lv_at hl 0 rfl) ?_
                refine lv_iload_n hx hb dX7_rank_65 rfl (lv_at hl 2 rfl) ?_
                obtain ⟨t20, ht20, hB⟩ := bi_at hB
                refine r_Vl ⟨hx, hb, hml, hown, hts⟩ (c_X7_treesWith l dC dI ad cA t19.2 x4 t20 ht20) (cwV 1 hts gX7_rank_X7_treesWith rfl rfl rfl (by decide +kernel) ⟨Nat.le_of_ble_eq_true rfl, Nat.le_of_ble_eq_true rfl⟩) hK hN hS (by decide) e_45 rfl rfl hl.1 rfl (Nat.le_of_ble_eq_true rfl) dX7_rank_66 ⟨Nat.le_refl _, Nat.le_refl _⟩ (fun H locs hS => ?_)
                refine W.lcmp hx hb dX7_rank_69 ?_
                have hJ83 : ∀ (H : Heap) (locs : List Loc) (ls : Array Slot), f_X7_rank_J83 x8 x9 t20 = some r33 → ST dC dI ad cA s t20.2 H locs → lv_has ls 5 [(0, .ref (ad 45)), (1, .int a1), (2, .int x4), (4, .int x9)] → W p l e (RM 5 114) s m args below meth c H locs 0 0 Q (F0 m 83 ls [.int x8]) := by
                  intro H locs ls hB hS hl
                  unfold f_X7_rank_J83 at hB
                  refine lv_iconst (v := (0 : Int32)) hx hb dX7_rank_83 (by decide) ?_
                  refine lv_iadd hx hb dX7_rank_84 ?_
                  refine lv_topi (fun x22 ex22 => ?_)
                  have hB := vl_at ex22 hB
                  refine lv_istore_n (lv' := [(3, .int x22), (0, .ref (ad 45)), (1, .int a1), (2, .int x4), (4, .int x9)]) hx hb dX7_rank_85 rfl hl (by decide) rfl (fun ls hl => ?_)
                  obtain ⟨x23, ex23⟩ : ∃ y : Int32, y = x9 + (1 : Int32) := ⟨_, rfl⟩
                  have hB := vl_at ex23 hB
                  refine lv_iinc (v := x23) (lv' := [(4, .int x23), (3, .int x22), (0, .ref (ad 45)), (1, .int a1), (2, .int x4)]) hx hb dX7_rank_86 hl (k := 4) rfl (by rw [ex23]; rfl) (by decide) rfl (fun ls hl => ?_)
                  refine lv_goto (tgt := 33) hx hb dX7_rank_89 (by decide) ?_
                  exact hI33 _ (Option.some.inj hB).symm H locs ls hS (lv_sub hl [2, 3, 4, 1, 0] rfl)
                refine lv_if_ne (tgt := 83) hx hb dX7_rank_70 (by decide) (fun c21 => ?_) (fun c21 => ?_)
                · have hB := it_f (fun q => c21 ((lg_cmp_eq _ _).mpr q)) hB
                  exact hJ83  H locs ls hB hS (lv_sub hl [0, 1, 2, 4] rfl)
                · have hB := it_t ((lg_cmp_eq _ _).mp c21) hB
                  refine lv_iload hx hb dX7_rank_73 (lv_at hl 4 rfl) ?_
                  refine lv_iload_n hx hb dX7_rank_75 rfl (lv_at hl 2 rfl) ?_
                  refine lv_icmp_ge (tgt := 83) hx hb dX7_rank_76 (by decide) (fun c24 => ?_) (fun c24 => ?_)
                  · have hB := it_t c24 hB
                    exact hJ83  H locs ls hB hS (lv_sub hl [0, 1, 2, 4] rfl)
                  · have hB := it_f c24 hB
                    exact hJ79 t20.2 H locs ls hB hS (lv_sub hl [0, 1, 2, 4] rfl)
          · skip
            intro H locs ls hS hl
            have hS : ST dC dI ad cA s t25.2 H locs := hS
            have hl : lv_has ls 5 [(0, .ref (ad 45)), (1, .int a1), (2, .int x4), (3, .int t25.1)] := hl
            show W p l e (RM 5 114) s m args below meth c H locs 0 0 Q (F0 m 92 ls [])
            refine lv_iload_n hx hb dX7_rank_92 rfl (lv_at hl 3 rfl) ?_
            refine lv_iload_n hx hb dX7_rank_93 rfl (lv_at hl 1 rfl) ?_
            refine lv_icmp_ne (tgt := 99) hx hb dX7_rank_94 (by decide) (fun c26 => ?_) (fun c26 => ?_)
            · have hB := it_f c26 hB
              obtain ⟨x27, ex27⟩ : ∃ y : Int32, y = x4 + (1 : Int32) := ⟨_, rfl⟩
              have hB := vl_at ex27 hB
              refine lv_iinc (v := x27) (lv' := [(2, .int x27), (0, .ref (ad 45)), (1, .int a1), (3, .int t25.1)]) hx hb dX7_rank_99 hl (k := 2) rfl (by rw [ex27]; rfl) (by decide) rfl (fun ls hl => ?_)
              refine lv_goto (tgt := 20) hx hb dX7_rank_102 (by decide) ?_
              exact hI20 _ (Option.some.inj hB).symm H locs ls hS (lv_sub hl [1, 2, 0] rfl)
            · have hB := it_t c26 hB
              refine lv_iload_n hx hb dX7_rank_97 rfl (lv_at hl 2 rfl) ?_
              subst hQ
              exact r_iret hx hb hr hK hS (hE20 _ (Option.some.inj hB).symm) hlocks dX7_rank_98
      · rcases t28 with t28 | v
        · rw [Sum.elim_inl] at hB
          intro H locs ls hS hl
          have hS : ST dC dI ad cA s t28 H locs := hS
          have hl : lv_has ls 5 [] := hl
          show W p l e (RM 5 114) s m args below meth c H locs 0 0 Q (F0 m 105 ls [])
          refine lv_bipush (v := (-9 : Int32)) hx hb dX7_rank_105 (by decide) ?_
          subst hQ
          exact r_iret hx hb hr hK hS hB hlocks dX7_rank_107
        · exact hB
    · have hB := it_t c3 hB
      refine lv_bipush (v := (-2 : Int32)) hx hb dX7_rank_15 (by decide) ?_
      subst hQ
      exact r_iret hx hb hr hK hS hB hlocks dX7_rank_17
  · have hB := it_f c1 hB
    refine lv_iconst (v := (-1 : Int32)) hx hb dX7_rank_4 (by decide) ?_
    subst hQ
    exact r_iret hx hb hr hK hS hB hlocks dX7_rank_5
set_option maxHeartbeats 4000000 in
set_option maxRecDepth 100000 in
theorem c_X7_resists (l : Launch) (dC : Nat → ClassId) (dI : Nat → Nat → Nat) (ad : Nat → Nat) (cA : Nat → ClassId) (σ : Sg) (a1 : Int32) (a2 : Int32) (a3 : Int64) (a4 : Int64) (z : Sg) (hB : f_X7_resists σ a1 a2 a3 a4 = some z) : Kv l dC dI ad cA yX7_resists wsX7_resists 1 29 [.ref (ad 45), .int a1, .int a2, .long a3, .long a4] σ z := by
  refine mk_v (cc := cX7_resists) (maxL := 9) (ret := none) (by decide) rfl (Nat.le_of_ble_eq_true rfl) ?_
  intro p e s m args below meth c Q H locs ls ⟨hx, hb, hr, hml, hown, hts, hlocks, hK, hN⟩ hQ hS hl
  have hown : s.vm.findClass RX7 = some m.cls := hown
  have hl : lv_has ls 9 [(0, .ref (ad 45)), (1, .int a1), (2, .int a2), (3, .long a3), (5, .long a4)] := hl
  have hk_f40 := hts (.fieldLink RX7 40 "ChanceNetsModel" "ups" "[J") (by decide +kernel)
  have hin_X7 : ∀ w ∈ u_ws RX7 TX7 19, w ∈ wsX7_resists := by decide +kernel
  have hk_f43 := hts (.fieldLink RX7 43 "ChanceNetsModel" "lows" "[J") (by decide +kernel)
  unfold f_X7_resists at hB
  refine lv_lload hx hb dX7_resists_0 (lv_at hl 4 rfl) ?_
  refine lv_lconst (v := (0 : Int64)) hx hb dX7_resists_2 (by decide) ?_
  refine W.lcmp hx hb dX7_resists_3 ?_
  have hJ17 : ∀ (x2 : Int64) (H : Heap) (locs : List Loc) (ls : Array Slot), f_X7_resists_J17 σ a1 a2 a3 a4 x2 = some z → ST dC dI ad cA s σ H locs → lv_has ls 9 [(0, .ref (ad 45)), (1, .int a1), (2, .int a2), (3, .long a3), (5, .long a4)] → W p l e (RM 1 29) s m args below meth c H locs 0 0 Q (F0 m 17 ls [.long x2]) := by
    intro x2 H locs ls hB hS hl
    unfold f_X7_resists_J17 at hB
    refine lv_lstore (lv' := [(7, .long x2), (0, .ref (ad 45)), (1, .int a1), (2, .int a2), (3, .long a3), (5, .long a4)]) hx hb dX7_resists_17 hl (by decide) rfl (fun ls hl => ?_)
    refine lv_aload_n hx hb dX7_resists_19 rfl (lv_at hl 1 rfl) ?_
    refine r_get (v := .ref (ad 54)) (C := RX7) (T := TX7) (N := 19) hx hb hts hin_X7 hown hK hS (by decide) e_45 rfl 17 (by decide) hk_f40 rfl rfl dX7_resists_20 ?_
    refine lv_bipush (v := (6 : Int32)) hx hb dX7_resists_23 (by decide) ?_
    refine lv_iload_n hx hb dX7_resists_25 rfl (lv_at hl 2 rfl) ?_
    refine lv_imul hx hb dX7_resists_26 ?_
    refine lv_iload_n hx hb dX7_resists_27 rfl (lv_at hl 3 rfl) ?_
    refine lv_iadd hx hb dX7_resists_28 ?_
    refine lv_lload_n hx hb dX7_resists_29 rfl (lv_at hl 4 rfl) ?_
    refine lv_lload hx hb dX7_resists_30 (lv_at hl 0 rfl) ?_
    obtain ⟨h3, hB⟩ := gd_at hB
    refine lv_ldiv hx hb dX7_resists_32 (of_decide_eq_true h3) ?_
    refine lv_topl (fun x4 ex4 => ?_)
    have hB := vl_at ex4 hB
    obtain ⟨h5, hB⟩ := gd_at hB
    refine r_last hx hb hK hS h5 dX7_resists_33 (fun H locs hS => ?_)
    obtain ⟨σ6, eσ6⟩ : ∃ t : Sg, t = pJ σ 54 (((6 : Int32) * a1) + a2).toNatClampNeg x4 := ⟨_, rfl⟩
    rw [← eσ6] at hS
    have hB := vl_at eσ6 hB
    refine lv_aload_n hx hb dX7_resists_34 rfl (lv_at hl 1 rfl) ?_
    refine r_get (v := .ref (ad 54)) (C := RX7) (T := TX7) (N := 19) hx hb hts hin_X7 hown hK hS (by decide) e_45 rfl 17 (by decide) hk_f40 rfl rfl dX7_resists_35 ?_
    refine lv_bipush (v := (6 : Int32)) hx hb dX7_resists_38 (by decide) ?_
    refine lv_iload_n hx hb dX7_resists_40 rfl (lv_at hl 3 rfl) ?_
    refine lv_imul hx hb dX7_resists_41 ?_
    refine lv_iload_n hx hb dX7_resists_42 rfl (lv_at hl 2 rfl) ?_
    refine lv_iadd hx hb dX7_resists_43 ?_
    refine lv_lload_n hx hb dX7_resists_44 rfl (lv_at hl 4 rfl) ?_
    refine lv_lload hx hb dX7_resists_45 (lv_at hl 0 rfl) ?_
    obtain ⟨h7, hB⟩ := gd_at hB
    refine lv_ldiv hx hb dX7_resists_47 (of_decide_eq_true h7) ?_
    refine lv_topl (fun x8 ex8 => ?_)
    have hB := vl_at ex8 hB
    obtain ⟨h9, hB⟩ := gd_at hB
    refine r_last hx hb hK hS h9 dX7_resists_48 (fun H locs hS => ?_)
    obtain ⟨σ10, eσ10⟩ : ∃ t : Sg, t = pJ σ6 54 (((6 : Int32) * a2) + a1).toNatClampNeg x8 := ⟨_, rfl⟩
    rw [← eσ10] at hS
    have hB := vl_at eσ10 hB
    refine lv_aload_n hx hb dX7_resists_49 rfl (lv_at hl 1 rfl) ?_
    refine r_get (v := .ref (ad 55)) (C := RX7) (T := TX7) (N := 19) hx hb hts hin_X7 hown hK hS (by decide) e_45 rfl 18 (by decide) hk_f43 rfl rfl dX7_resists_50 ?_
    refine lv_bipush (v := (6 : Int32)) hx hb dX7_resists_53 (by decide) ?_
    refine lv_iload_n hx hb dX7_resists_55 rfl (lv_at hl 2 rfl) ?_
    refine lv_imul hx hb dX7_resists_56 ?_
    refine lv_iload_n hx hb dX7_resists_57 rfl (lv_at hl 3 rfl) ?_
    refine lv_iadd hx hb dX7_resists_58 ?_
    refine lv_lload hx hb dX7_resists_59 (lv_at hl 5 rfl) ?_
    refine lv_lload hx hb dX7_resists_61 (lv_at hl 0 rfl) ?_
    obtain ⟨h11, hB⟩ := gd_at hB
    refine lv_ldiv hx hb dX7_resists_63 (of_decide_eq_true h11) ?_
    refine lv_topl (fun x12 ex12 => ?_)
    have hB := vl_at ex12 hB
    obtain ⟨h13, hB⟩ := gd_at hB
    refine r_last hx hb hK hS h13 dX7_resists_64 (fun H locs hS => ?_)
    obtain ⟨σ14, eσ14⟩ : ∃ t : Sg, t = pJ σ10 55 (((6 : Int32) * a1) + a2).toNatClampNeg x12 := ⟨_, rfl⟩
    rw [← eσ14] at hS
    have hB := vl_at eσ14 hB
    refine lv_aload_n hx hb dX7_resists_65 rfl (lv_at hl 1 rfl) ?_
    refine r_get (v := .ref (ad 55)) (C := RX7) (T := TX7) (N := 19) hx hb hts hin_X7 hown hK hS (by decide) e_45 rfl 18 (by decide) hk_f43 rfl rfl dX7_resists_66 ?_
    refine lv_bipush (v := (6 : Int32)) hx hb dX7_resists_69 (by decide) ?_
    refine lv_iload_n hx hb dX7_resists_71 rfl (lv_at hl 3 rfl) ?_
    refine lv_imul hx hb dX7_resists_72 ?_
    refine lv_iload_n hx hb dX7_resists_73 rfl (lv_at hl 2 rfl) ?_
    refine lv_iadd hx hb dX7_resists_74 ?_
    refine lv_lload hx hb dX7_resists_75 (lv_at hl 5 rfl) ?_
    refine lv_lload hx hb dX7_resists_77 (lv_at hl 0 rfl) ?_
    obtain ⟨h15, hB⟩ := gd_at hB
    refine lv_ldiv hx hb dX7_resists_79 (of_decide_eq_true h15) ?_
    refine lv_topl (fun x16 ex16 => ?_)
    have hB := vl_at ex16 hB
    obtain ⟨h17, hB⟩ := gd_at hB
    refine r_last hx hb hK hS h17 dX7_resists_80 (fun H locs hS => ?_)
    obtain ⟨σ18, eσ18⟩ : ∃ t : Sg, t = pJ σ14 55 (((6 : Int32) * a2) + a1).toNatClampNeg x16 := ⟨_, rfl⟩
    rw [← eσ18] at hS
    have hB := vl_at eσ18 hB
    subst hQ
    exact r_vret hx hb hr hK hS hB hlocks dX7_resists_81
  refine lv_if_ne (tgt := 11) hx hb dX7_resists_4 (by decide) (fun c1 => ?_) (fun c1 => ?_)
  · have hB := it_f (fun q => c1 ((lg_cmp_eq _ _).mpr q)) hB
    refine lv_lload_n hx hb dX7_resists_11 rfl (lv_at hl 3 rfl) ?_
    refine lv_lload hx hb dX7_resists_12 (lv_at hl 4 rfl) ?_
    obtain ⟨t19, ht19, hB⟩ := bi_at hB
    refine r_SlP ⟨hx, hb, hml, hown, hts⟩ (c_X7_common l dC dI ad cA σ a3 a4 t19 ht19) (va_cwS 2 hts gX7_resists_X7_common rfl rfl rfl (by decide +kernel) ⟨Nat.le_of_ble_eq_true rfl, Nat.le_of_ble_eq_true rfl⟩) hK hN hS rfl hl.1 rfl (Nat.le_of_ble_eq_true rfl) dX7_resists_14 ⟨Nat.le_refl _, Nat.le_refl _⟩ (fun H locs hS => ?_)
    exact hJ17 t19 H locs ls hB hS (lv_sub hl [0, 1, 2, 3, 4] rfl)
  · have hB := it_t ((lg_cmp_eq _ _).mp c1) hB
    refine lv_lconst (v := (1 : Int64)) hx hb dX7_resists_7 (by decide) ?_
    refine lv_goto (tgt := 17) hx hb dX7_resists_8 (by decide) ?_
    exact hJ17 (1 : Int64) H locs ls hB hS (lv_sub hl [0, 1, 2, 3, 4] rfl)
set_option maxHeartbeats 4000000 in
set_option maxRecDepth 100000 in
theorem c_X7_neighbour (l : Launch) (dC : Nat → ClassId) (dI : Nat → Nat → Nat) (ad : Nat → Nat) (cA : Nat → ClassId) (σ : Sg) (a1 : Int32) (a2 : Int32) (z : Int32) (hB : f_X7_neighbour σ a1 a2 = some z) : Ki l dC dI ad cA yX7_neighbour wsX7_neighbour 0 0 [.ref (ad 45), .int a1, .int a2] σ (z, σ) := by
  refine mk_i (cc := cX7_neighbour) (maxL := 5) (ret := (some .int)) (by decide) rfl (Nat.le_of_ble_eq_true rfl) ?_
  intro p e s m args below meth c Q H locs ls ⟨hx, hb, hr, hml, hown, hts, hlocks, hK, hN⟩ hQ hS hl
  have hown : s.vm.findClass RX7 = some m.cls := hown
  have hl : lv_has ls 5 [(0, .ref (ad 45)), (1, .int a1), (2, .int a2)] := hl
  have hk_f13 := hts (.fieldLink RX7 13 "ChanceNetsModel" "nodes" "I") (by decide +kernel)
  have hin_X7 : ∀ w ∈ u_ws RX7 TX7 19, w ∈ wsX7_neighbour := by decide +kernel
  have hk_f43 := hts (.fieldLink RX7 43 "ChanceNetsModel" "lows" "[J") (by decide +kernel)
  unfold f_X7_neighbour at hB
  refine lv_iconst (v := (0 : Int32)) hx hb dX7_neighbour_0 (by decide) ?_
  refine lv_istore_n (lv' := [(3, .int (0 : Int32)), (0, .ref (ad 45)), (1, .int a1), (2, .int a2)]) hx hb dX7_neighbour_1 rfl hl (by decide) rfl (fun ls hl => ?_)
  refine lv_iconst (v := (0 : Int32)) hx hb dX7_neighbour_2 (by decide) ?_
  refine lv_istore (lv' := [(4, .int (0 : Int32)), (3, .int (0 : Int32)), (0, .ref (ad 45)), (1, .int a1), (2, .int a2)]) hx hb dX7_neighbour_3 hl (by decide) rfl (fun ls hl => ?_)
  obtain ⟨t10, ht10, hB⟩ := bi_at hB
  refine wl_W (body := fun a => f_X7_neighbour_B5 σ a1 a2 a.1 a.2) (Hd := fun a : Int32 × Int32 => ∀ (H : Heap) (locs : List Loc) (ls : Array Slot), ST dC dI ad cA s σ H locs → lv_has ls 5 [(0, .ref (ad 45)), (1, .int a1), (2, .int a2), (3, .int a.1), (4, .int a.2)] → W p l e (RM 0 0) s m args below meth c H locs 0 0 Q (F0 m 5 ls [])) (Ex := fun b : (Unit) ⊕ (Int32) => Sum.elim (fun b : Unit => ∀ (H : Heap) (locs : List Loc) (ls : Array Slot), ST dC dI ad cA s σ H locs → lv_has ls 5 [] → W p l e (RM 0 0) s m args below meth c H locs 0 0 Q (F0 m 48 ls [])) (fun v => some v = some z) b) ?_ FU _ t10 ht10 ?_ H locs ls hS (lv_sub hl [2, 3, 4, 1, 0] rfl)
  · intro a r5 hB hI5 hE5 H locs ls hS hl
    obtain ⟨x1, x2⟩ := a
    have hB : f_X7_neighbour_B5 σ a1 a2 x1 x2 = some r5 := hB
    unfold f_X7_neighbour_B5 at hB
    have hS : ST dC dI ad cA s σ H locs := hS
    have hl : lv_has ls 5 [(0, .ref (ad 45)), (1, .int a1), (2, .int a2), (3, .int x1), (4, .int x2)] := hl
    show W p l e (RM 0 0) s m args below meth c H locs 0 0 Q (F0 m 5 ls [])
    refine lv_iload hx hb dX7_neighbour_5 (lv_at hl 4 rfl) ?_
    refine lv_aload_n hx hb dX7_neighbour_7 rfl (lv_at hl 0 rfl) ?_
    refine r_get (v := .int (gI σ 17)) (C := RX7) (T := TX7) (N := 19) hx hb hts hin_X7 hown hK hS (by decide) e_45 rfl 1 (by decide) hk_f13 rfl rfl dX7_neighbour_8 ?_
    refine lv_icmp_ge (tgt := 48) hx hb dX7_neighbour_11 (by decide) (fun c3 => ?_) (fun c3 => ?_)
    · have hB := it_t c3 hB
      exact hE5 _ (Option.some.inj hB).symm H locs ls hS (lv_sub hl [] rfl)
    · have hB := it_f c3 hB
      refine lv_aload_n hx hb dX7_neighbour_14 rfl (lv_at hl 0 rfl) ?_
      refine r_get (v := .ref (ad 55)) (C := RX7) (T := TX7) (N := 19) hx hb hts hin_X7 hown hK hS (by decide) e_45 rfl 18 (by decide) hk_f43 rfl rfl dX7_neighbour_15 ?_
      refine lv_bipush (v := (6 : Int32)) hx hb dX7_neighbour_18 (by decide) ?_
      refine lv_iload_n hx hb dX7_neighbour_20 rfl (lv_at hl 1 rfl) ?_
      refine lv_imul hx hb dX7_neighbour_21 ?_
      refine lv_iload hx hb dX7_neighbour_22 (lv_at hl 4 rfl) ?_
      refine lv_iadd hx hb dX7_neighbour_24 ?_
      obtain ⟨h4, hB⟩ := gd_at hB
      refine r_lald hx hb hK hS h4 dX7_neighbour_25 ?_
      refine lv_lconst (v := (0 : Int64)) hx hb dX7_neighbour_26 (by decide) ?_
      refine W.lcmp hx hb dX7_neighbour_27 ?_
      refine lv_if_le (tgt := 42) hx hb dX7_neighbour_28 (by decide) (fun c5 => ?_) (fun c5 => ?_)
      · have hB := it_t ((lg_cmp_le _ _).mp c5) hB
        obtain ⟨x6, ex6⟩ : ∃ y : Int32, y = x2 + (1 : Int32) := ⟨_, rfl⟩
        have hB := vl_at ex6 hB
        refine lv_iinc (v := x6) (lv' := [(4, .int x6), (0, .ref (ad 45)), (1, .int a1), (2, .int a2), (3, .int x1)]) hx hb dX7_neighbour_42 hl (k := 4) rfl (by rw [ex6]; rfl) (by decide) rfl (fun ls hl => ?_)
        refine lv_goto (tgt := 5) hx hb dX7_neighbour_45 (by decide) ?_
        exact hI5 _ (Option.some.inj hB).symm H locs ls hS (lv_sub hl [1, 2, 3, 4, 0] rfl)
      · have hB := it_f (fun q => c5 ((lg_cmp_le _ _).mpr q)) hB
        refine lv_iload_n hx hb dX7_neighbour_31 rfl (lv_at hl 3 rfl) ?_
        refine lv_iload_n hx hb dX7_neighbour_32 rfl (lv_at hl 2 rfl) ?_
        refine lv_icmp_ne (tgt := 39) hx hb dX7_neighbour_33 (by decide) (fun c7 => ?_) (fun c7 => ?_)
        · have hB := it_f c7 hB
          obtain ⟨x8, ex8⟩ : ∃ y : Int32, y = x1 + (1 : Int32) := ⟨_, rfl⟩
          have hB := vl_at ex8 hB
          refine lv_iinc (v := x8) (lv' := [(3, .int x8), (0, .ref (ad 45)), (1, .int a1), (2, .int a2), (4, .int x2)]) hx hb dX7_neighbour_39 hl (k := 3) rfl (by rw [ex8]; rfl) (by decide) rfl (fun ls hl => ?_)
          obtain ⟨x9, ex9⟩ : ∃ y : Int32, y = x2 + (1 : Int32) := ⟨_, rfl⟩
          have hB := vl_at ex9 hB
          refine lv_iinc (v := x9) (lv' := [(4, .int x9), (3, .int x8), (0, .ref (ad 45)), (1, .int a1), (2, .int a2)]) hx hb dX7_neighbour_42 hl (k := 4) rfl (by rw [ex9]; rfl) (by decide) rfl (fun ls hl => ?_)
          refine lv_goto (tgt := 5) hx hb dX7_neighbour_45 (by decide) ?_
          exact hI5 _ (Option.some.inj hB).symm H locs ls hS (lv_sub hl [2, 3, 4, 1, 0] rfl)
        · have hB := it_t c7 hB
          refine lv_iload hx hb dX7_neighbour_36 (lv_at hl 4 rfl) ?_
          subst hQ
          exact r_iret hx hb hr hK hS (pz (hE5 _ (Option.some.inj hB).symm)) hlocks dX7_neighbour_38
  · rcases t10 with t10 | v
    · rw [Sum.elim_inl] at hB
      intro H locs ls hS hl
      have hS : ST dC dI ad cA s σ H locs := hS
      have hl : lv_has ls 5 [] := hl
      show W p l e (RM 0 0) s m args below meth c H locs 0 0 Q (F0 m 48 ls [])
      refine lv_bipush (v := (-9 : Int32)) hx hb dX7_neighbour_48 (by decide) ?_
      subst hQ
      exact r_iret hx hb hr hK hS (pz hB) hlocks dX7_neighbour_50
    · exact hB
set_option maxHeartbeats 4000000 in
set_option maxRecDepth 100000 in
theorem c_X7_goes (l : Launch) (dC : Nat → ClassId) (dI : Nat → Nat → Nat) (ad : Nat → Nat) (cA : Nat → ClassId) (σ : Sg) (a1 : Int32) (z : Sg) (hB : f_X7_goes σ a1 = some z) : Kv l dC dI ad cA yX7_goes wsX7_goes 2 57 [.ref (ad 45), .int a1] σ z := by
  refine mk_v (cc := cX7_goes) (maxL := 12) (ret := none) (by decide) rfl (Nat.le_of_ble_eq_true rfl) ?_
  intro p e s m args below meth c Q H locs ls ⟨hx, hb, hr, hml, hown, hts, hlocks, hK, hN⟩ hQ hS hl
  have hown : s.vm.findClass RX7 = some m.cls := hown
  have hl : lv_has ls 12 [(0, .ref (ad 45)), (1, .int a1)] := hl
  have hk_f40 := hts (.fieldLink RX7 40 "ChanceNetsModel" "ups" "[J") (by decide +kernel)
  have hin_X7 : ∀ w ∈ u_ws RX7 TX7 19, w ∈ wsX7_goes := by decide +kernel
  have hk_f43 := hts (.fieldLink RX7 43 "ChanceNetsModel" "lows" "[J") (by decide +kernel)
  unfold f_X7_goes at hB
  refine lv_aload_n hx hb dX7_goes_0 rfl (lv_at hl 0 rfl) ?_
  refine lv_iload_n hx hb dX7_goes_1 rfl (lv_at hl 1 rfl) ?_
  refine lv_iconst (v := (0 : Int32)) hx hb dX7_goes_2 (by decide) ?_
  obtain ⟨t1, ht1, hB⟩ := bi_at hB
  refine r_ViP ⟨hx, hb, hml, hown, hts⟩ (c_X7_neighbour l dC dI ad cA σ a1 (0 : Int32) t1 ht1) (cwV 2 hts gX7_goes_X7_neighbour rfl rfl rfl (by decide +kernel) ⟨Nat.le_of_ble_eq_true rfl, Nat.le_of_ble_eq_true rfl⟩) hK hN hS (by decide) e_45 rfl rfl hl.1 rfl (Nat.le_of_ble_eq_true rfl) dX7_goes_3 ⟨Nat.le_refl _, Nat.le_refl _⟩ (fun H locs hS => ?_)
  refine lv_istore_n (lv' := [(2, .int t1), (0, .ref (ad 45)), (1, .int a1)]) hx hb dX7_goes_6 rfl hl (by decide) rfl (fun ls hl => ?_)
  refine lv_aload_n hx hb dX7_goes_7 rfl (lv_at hl 1 rfl) ?_
  refine lv_iload_n hx hb dX7_goes_8 rfl (lv_at hl 2 rfl) ?_
  refine lv_iconst (v := (1 : Int32)) hx hb dX7_goes_9 (by decide) ?_
  obtain ⟨t2, ht2, hB⟩ := bi_at hB
  refine r_ViP ⟨hx, hb, hml, hown, hts⟩ (c_X7_neighbour l dC dI ad cA σ a1 (1 : Int32) t2 ht2) (cwV 2 hts gX7_goes_X7_neighbour rfl rfl rfl (by decide +kernel) ⟨Nat.le_of_ble_eq_true rfl, Nat.le_of_ble_eq_true rfl⟩) hK hN hS (by decide) e_45 rfl rfl hl.1 rfl (Nat.le_of_ble_eq_true rfl) dX7_goes_10 ⟨Nat.le_refl _, Nat.le_refl _⟩ (fun H locs hS => ?_)
  refine lv_istore_n (lv' := [(3, .int t2), (2, .int t1), (0, .ref (ad 45)), (1, .int a1)]) hx hb dX7_goes_13 rfl hl (by decide) rfl (fun ls hl => ?_)
  refine lv_iload_n hx hb dX7_goes_14 rfl (lv_at hl 0 rfl) ?_
  refine lv_bipush (v := (-9 : Int32)) hx hb dX7_goes_15 (by decide) ?_
  have hJ170 : ∀ (σ3 : Sg) (H : Heap) (locs : List Loc) (ls : Array Slot), f_X7_goes_J170 a1 t1 σ3 = some z → ST dC dI ad cA s σ3 H locs → lv_has ls 12 [(0, .ref (ad 45)), (1, .int a1), (2, .int t1)] → W p l e (RM 2 57) s m args below meth c H locs 0 0 Q (F0 m 170 ls []) := by
    intro σ3 H locs ls hB hS hl
    unfold f_X7_goes_J170 at hB
    refine lv_aload_n hx hb dX7_goes_170 rfl (lv_at hl 0 rfl) ?_
    refine lv_iload_n hx hb dX7_goes_171 rfl (lv_at hl 1 rfl) ?_
    refine lv_iload_n hx hb dX7_goes_172 rfl (lv_at hl 2 rfl) ?_
    refine lv_lconst (v := (0 : Int64)) hx hb dX7_goes_173 (by decide) ?_
    refine lv_lconst (v := (0 : Int64)) hx hb dX7_goes_174 (by decide) ?_
    obtain ⟨t4, ht4, hB⟩ := bi_at hB
    refine r_Vv ⟨hx, hb, hml, hown, hts⟩ (c_X7_resists l dC dI ad cA σ3 a1 t1 (0 : Int64) (0 : Int64) t4 ht4) (cwV 4 hts gX7_goes_X7_resists rfl rfl rfl (by decide +kernel) ⟨Nat.le_of_ble_eq_true rfl, Nat.le_of_ble_eq_true rfl⟩) hK hN hS (by decide) e_45 rfl rfl hl.1 rfl (Nat.le_of_ble_eq_true rfl) dX7_goes_175 ⟨Nat.le_refl _, Nat.le_refl _⟩ (fun H locs hS => ?_)
    subst hQ
    exact r_vret hx hb hr hK hS hB hlocks dX7_goes_178
  refine lv_icmp_eq (tgt := 170) hx hb dX7_goes_17 (by decide) (fun c5 => ?_) (fun c5 => ?_)
  · have hB := it_t c5 hB
    exact hJ170 σ H locs ls hB hS (lv_sub hl [2, 3, 1] rfl)
  · have hB := it_f c5 hB
    refine lv_aload_n hx hb dX7_goes_20 rfl (lv_at hl 2 rfl) ?_
    refine r_get (v := .ref (ad 54)) (C := RX7) (T := TX7) (N := 19) hx hb hts hin_X7 hown hK hS (by decide) e_45 rfl 17 (by decide) hk_f40 rfl rfl dX7_goes_21 ?_
    refine lv_bipush (v := (6 : Int32)) hx hb dX7_goes_24 (by decide) ?_
    refine lv_iload_n hx hb dX7_goes_26 rfl (lv_at hl 3 rfl) ?_
    refine lv_imul hx hb dX7_goes_27 ?_
    refine lv_iload_n hx hb dX7_goes_28 rfl (lv_at hl 1 rfl) ?_
    refine lv_iadd hx hb dX7_goes_29 ?_
    obtain ⟨h6, hB⟩ := gd_at hB
    refine r_lald hx hb hK hS h6 dX7_goes_30 ?_
    refine lv_aload_n hx hb dX7_goes_31 rfl (lv_at hl 2 rfl) ?_
    refine r_get (v := .ref (ad 55)) (C := RX7) (T := TX7) (N := 19) hx hb hts hin_X7 hown hK hS (by decide) e_45 rfl 18 (by decide) hk_f43 rfl rfl dX7_goes_32 ?_
    refine lv_bipush (v := (6 : Int32)) hx hb dX7_goes_35 (by decide) ?_
    refine lv_iload_n hx hb dX7_goes_37 rfl (lv_at hl 3 rfl) ?_
    refine lv_imul hx hb dX7_goes_38 ?_
    refine lv_iload_n hx hb dX7_goes_39 rfl (lv_at hl 0 rfl) ?_
    refine lv_iadd hx hb dX7_goes_40 ?_
    obtain ⟨h7, hB⟩ := gd_at hB
    refine r_lald hx hb hK hS h7 dX7_goes_41 ?_
    refine lv_lmul hx hb dX7_goes_42 ?_
    refine lv_aload_n hx hb dX7_goes_43 rfl (lv_at hl 2 rfl) ?_
    refine r_get (v := .ref (ad 54)) (C := RX7) (T := TX7) (N := 19) hx hb hts hin_X7 hown hK hS (by decide) e_45 rfl 17 (by decide) hk_f40 rfl rfl dX7_goes_44 ?_
    refine lv_bipush (v := (6 : Int32)) hx hb dX7_goes_47 (by decide) ?_
    refine lv_iload_n hx hb dX7_goes_49 rfl (lv_at hl 3 rfl) ?_
    refine lv_imul hx hb dX7_goes_50 ?_
    refine lv_iload_n hx hb dX7_goes_51 rfl (lv_at hl 0 rfl) ?_
    refine lv_iadd hx hb dX7_goes_52 ?_
    obtain ⟨h8, hB⟩ := gd_at hB
    refine r_lald hx hb hK hS h8 dX7_goes_53 ?_
    refine lv_aload_n hx hb dX7_goes_54 rfl (lv_at hl 2 rfl) ?_
    refine r_get (v := .ref (ad 55)) (C := RX7) (T := TX7) (N := 19) hx hb hts hin_X7 hown hK hS (by decide) e_45 rfl 18 (by decide) hk_f43 rfl rfl dX7_goes_55 ?_
    refine lv_bipush (v := (6 : Int32)) hx hb dX7_goes_58 (by decide) ?_
    refine lv_iload_n hx hb dX7_goes_60 rfl (lv_at hl 3 rfl) ?_
    refine lv_imul hx hb dX7_goes_61 ?_
    refine lv_iload_n hx hb dX7_goes_62 rfl (lv_at hl 1 rfl) ?_
    refine lv_iadd hx hb dX7_goes_63 ?_
    obtain ⟨h9, hB⟩ := gd_at hB
    refine r_lald hx hb hK hS h9 dX7_goes_64 ?_
    refine lv_lmul hx hb dX7_goes_65 ?_
    refine lv_ladd hx hb dX7_goes_66 ?_
    refine lv_topl (fun x10 ex10 => ?_)
    have hB := vl_at ex10 hB
    refine lv_lstore (lv' := [(4, .long x10), (3, .int t2), (2, .int t1), (0, .ref (ad 45)), (1, .int a1)]) hx hb dX7_goes_67 hl (by decide) rfl (fun ls hl => ?_)
    refine lv_aload_n hx hb dX7_goes_69 rfl (lv_at hl 3 rfl) ?_
    refine r_get (v := .ref (ad 55)) (C := RX7) (T := TX7) (N := 19) hx hb hts hin_X7 hown hK hS (by decide) e_45 rfl 18 (by decide) hk_f43 rfl rfl dX7_goes_70 ?_
    refine lv_bipush (v := (6 : Int32)) hx hb dX7_goes_73 (by decide) ?_
    refine lv_iload_n hx hb dX7_goes_75 rfl (lv_at hl 4 rfl) ?_
    refine lv_imul hx hb dX7_goes_76 ?_
    refine lv_iload_n hx hb dX7_goes_77 rfl (lv_at hl 2 rfl) ?_
    refine lv_iadd hx hb dX7_goes_78 ?_
    obtain ⟨h11, hB⟩ := gd_at hB
    refine r_lald hx hb hK hS h11 dX7_goes_79 ?_
    refine lv_aload_n hx hb dX7_goes_80 rfl (lv_at hl 3 rfl) ?_
    refine r_get (v := .ref (ad 55)) (C := RX7) (T := TX7) (N := 19) hx hb hts hin_X7 hown hK hS (by decide) e_45 rfl 18 (by decide) hk_f43 rfl rfl dX7_goes_81 ?_
    refine lv_bipush (v := (6 : Int32)) hx hb dX7_goes_84 (by decide) ?_
    refine lv_iload_n hx hb dX7_goes_86 rfl (lv_at hl 4 rfl) ?_
    refine lv_imul hx hb dX7_goes_87 ?_
    refine lv_iload_n hx hb dX7_goes_88 rfl (lv_at hl 1 rfl) ?_
    refine lv_iadd hx hb dX7_goes_89 ?_
    obtain ⟨h12, hB⟩ := gd_at hB
    refine r_lald hx hb hK hS h12 dX7_goes_90 ?_
    refine lv_lmul hx hb dX7_goes_91 ?_
    refine lv_topl (fun x13 ex13 => ?_)
    have hB := vl_at ex13 hB
    refine lv_lstore (lv' := [(6, .long x13), (4, .long x10), (3, .int t2), (2, .int t1), (0, .ref (ad 45)), (1, .int a1)]) hx hb dX7_goes_92 hl (by decide) rfl (fun ls hl => ?_)
    refine lv_aload_n hx hb dX7_goes_94 rfl (lv_at hl 4 rfl) ?_
    refine r_get (v := .ref (ad 54)) (C := RX7) (T := TX7) (N := 19) hx hb hts hin_X7 hown hK hS (by decide) e_45 rfl 17 (by decide) hk_f40 rfl rfl dX7_goes_95 ?_
    refine lv_bipush (v := (6 : Int32)) hx hb dX7_goes_98 (by decide) ?_
    refine lv_iload_n hx hb dX7_goes_100 rfl (lv_at hl 3 rfl) ?_
    refine lv_imul hx hb dX7_goes_101 ?_
    refine lv_iload_n hx hb dX7_goes_102 rfl (lv_at hl 2 rfl) ?_
    refine lv_iadd hx hb dX7_goes_103 ?_
    obtain ⟨h14, hB⟩ := gd_at hB
    refine r_lald hx hb hK hS h14 dX7_goes_104 ?_
    refine lv_topl (fun x15 ex15 => ?_)
    have hB := vl_at ex15 hB
    refine lv_lstore (lv' := [(8, .long x15), (6, .long x13), (4, .long x10), (3, .int t2), (2, .int t1), (0, .ref (ad 45)), (1, .int a1)]) hx hb dX7_goes_105 hl (by decide) rfl (fun ls hl => ?_)
    refine lv_aload_n hx hb dX7_goes_107 rfl (lv_at hl 5 rfl) ?_
    refine r_get (v := .ref (ad 55)) (C := RX7) (T := TX7) (N := 19) hx hb hts hin_X7 hown hK hS (by decide) e_45 rfl 18 (by decide) hk_f43 rfl rfl dX7_goes_108 ?_
    refine lv_bipush (v := (6 : Int32)) hx hb dX7_goes_111 (by decide) ?_
    refine lv_iload_n hx hb dX7_goes_113 rfl (lv_at hl 4 rfl) ?_
    refine lv_imul hx hb dX7_goes_114 ?_
    refine lv_iload_n hx hb dX7_goes_115 rfl (lv_at hl 3 rfl) ?_
    refine lv_iadd hx hb dX7_goes_116 ?_
    obtain ⟨h16, hB⟩ := gd_at hB
    refine r_lald hx hb hK hS h16 dX7_goes_117 ?_
    refine lv_topl (fun x17 ex17 => ?_)
    have hB := vl_at ex17 hB
    refine lv_lstore (lv' := [(10, .long x17), (8, .long x15), (6, .long x13), (4, .long x10), (3, .int t2), (2, .int t1), (0, .ref (ad 45)), (1, .int a1)]) hx hb dX7_goes_118 hl (by decide) rfl (fun ls hl => ?_)
    refine lv_lload hx hb dX7_goes_120 (lv_at hl 0 rfl) ?_
    refine lv_lconst (v := (0 : Int64)) hx hb dX7_goes_122 (by decide) ?_
    refine W.lcmp hx hb dX7_goes_123 ?_
    have hJ162 : ∀ (σ19 : Sg) (H : Heap) (locs : List Loc) (ls : Array Slot), f_X7_goes_J162 a1 t1 t2 σ19 = some z → ST dC dI ad cA s σ19 H locs → lv_has ls 12 [(0, .ref (ad 45)), (1, .int a1), (2, .int t1), (3, .int t2)] → W p l e (RM 2 57) s m args below meth c H locs 0 0 Q (F0 m 162 ls []) := by
      intro σ19 H locs ls hB hS hl
      unfold f_X7_goes_J162 at hB
      refine lv_aload_n hx hb dX7_goes_162 rfl (lv_at hl 0 rfl) ?_
      refine lv_iload_n hx hb dX7_goes_163 rfl (lv_at hl 1 rfl) ?_
      refine lv_iload_n hx hb dX7_goes_164 rfl (lv_at hl 3 rfl) ?_
      refine lv_lconst (v := (0 : Int64)) hx hb dX7_goes_165 (by decide) ?_
      refine lv_lconst (v := (0 : Int64)) hx hb dX7_goes_166 (by decide) ?_
      obtain ⟨t20, ht20, hB⟩ := bi_at hB
      refine r_Vv ⟨hx, hb, hml, hown, hts⟩ (c_X7_resists l dC dI ad cA σ19 a1 t2 (0 : Int64) (0 : Int64) t20 ht20) (cwV 4 hts gX7_goes_X7_resists rfl rfl rfl (by decide +kernel) ⟨Nat.le_of_ble_eq_true rfl, Nat.le_of_ble_eq_true rfl⟩) hK hN hS (by decide) e_45 rfl rfl hl.1 rfl (Nat.le_of_ble_eq_true rfl) dX7_goes_167 ⟨Nat.le_refl _, Nat.le_refl _⟩ (fun H locs hS => ?_)
      exact hJ170 t20 H locs ls hB hS (lv_sub hl [0, 1, 2] rfl)
    refine lv_if_ne (tgt := 140) hx hb dX7_goes_124 (by decide) (fun c18 => ?_) (fun c18 => ?_)
    · have hB := it_f (fun q => c18 ((lg_cmp_eq _ _).mpr q)) hB
      refine lv_aload_n hx hb dX7_goes_140 rfl (lv_at hl 6 rfl) ?_
      refine lv_iload_n hx hb dX7_goes_141 rfl (lv_at hl 5 rfl) ?_
      refine lv_iload_n hx hb dX7_goes_142 rfl (lv_at hl 4 rfl) ?_
      refine lv_lload hx hb dX7_goes_143 (lv_at hl 3 rfl) ?_
      refine lv_lload hx hb dX7_goes_145 (lv_at hl 1 rfl) ?_
      refine lv_lmul hx hb dX7_goes_147 ?_
      refine lv_lload hx hb dX7_goes_148 (lv_at hl 3 rfl) ?_
      refine lv_lload hx hb dX7_goes_150 (lv_at hl 0 rfl) ?_
      refine lv_lmul hx hb dX7_goes_152 ?_
      refine lv_lload hx hb dX7_goes_153 (lv_at hl 1 rfl) ?_
      refine lv_lload hx hb dX7_goes_155 (lv_at hl 2 rfl) ?_
      refine lv_lmul hx hb dX7_goes_157 ?_
      refine lv_ladd hx hb dX7_goes_158 ?_
      obtain ⟨t21, ht21, hB⟩ := bi_at hB
      refine r_Vv ⟨hx, hb, hml, hown, hts⟩ (c_X7_resists l dC dI ad cA σ t1 t2 (x10 * x15) ((x10 * x17) + (x15 * x13)) t21 ht21) (cwV 4 hts gX7_goes_X7_resists rfl rfl rfl (by decide +kernel) ⟨Nat.le_of_ble_eq_true rfl, Nat.le_of_ble_eq_true rfl⟩) hK hN hS (by decide) e_45 rfl rfl hl.1 rfl (Nat.le_of_ble_eq_true rfl) dX7_goes_159 ⟨Nat.le_refl _, Nat.le_refl _⟩ (fun H locs hS => ?_)
      exact hJ162 t21 H locs ls hB hS (lv_sub hl [6, 7, 5, 4] rfl)
    · have hB := it_t ((lg_cmp_eq _ _).mp c18) hB
      refine lv_aload_n hx hb dX7_goes_127 rfl (lv_at hl 6 rfl) ?_
      refine lv_iload_n hx hb dX7_goes_128 rfl (lv_at hl 5 rfl) ?_
      refine lv_iload_n hx hb dX7_goes_129 rfl (lv_at hl 4 rfl) ?_
      refine lv_lload hx hb dX7_goes_130 (lv_at hl 3 rfl) ?_
      refine lv_lload hx hb dX7_goes_132 (lv_at hl 2 rfl) ?_
      obtain ⟨t22, ht22, hB⟩ := bi_at hB
      refine r_Vv ⟨hx, hb, hml, hown, hts⟩ (c_X7_resists l dC dI ad cA σ t1 t2 x10 x13 t22 ht22) (cwV 4 hts gX7_goes_X7_resists rfl rfl rfl (by decide +kernel) ⟨Nat.le_of_ble_eq_true rfl, Nat.le_of_ble_eq_true rfl⟩) hK hN hS (by decide) e_45 rfl rfl hl.1 rfl (Nat.le_of_ble_eq_true rfl) dX7_goes_134 ⟨Nat.le_refl _, Nat.le_refl _⟩ (fun H locs hS => ?_)
      refine lv_goto (tgt := 162) hx hb dX7_goes_137 (by decide) ?_
      exact hJ162 t22 H locs ls hB hS (lv_sub hl [6, 7, 5, 4] rfl)
set_option maxHeartbeats 4000000 in
set_option maxRecDepth 100000 in
theorem c_X7_reduced (l : Launch) (dC : Nat → ClassId) (dI : Nat → Nat → Nat) (ad : Nat → Nat) (cA : Nat → ClassId) (σ : Sg) (a1 : Int32) (a2 : Int32) (a3 : Int32) (z : Int64 × Sg) (hB : f_X7_reduced σ a1 a2 a3 = some z) : Kl l dC dI ad cA yX7_reduced wsX7_reduced 3 88 [.ref (ad 45), .int a1, .int a2, .int a3] σ z := by
  refine mk_l (cc := cX7_reduced) (maxL := 7) (ret := (some .long)) (by decide) rfl (Nat.le_of_ble_eq_true rfl) ?_
  intro p e s m args below meth c Q H locs ls ⟨hx, hb, hr, hml, hown, hts, hlocks, hK, hN⟩ hQ hS hl
  have hown : s.vm.findClass RX7 = some m.cls := hown
  have hl : lv_has ls 7 [(0, .ref (ad 45)), (1, .int a1), (2, .int a2), (3, .int a3)] := hl
  have hk_c149 := hts (.constantLong RX7 149 (-1)) (by decide +kernel)
  have hk_c114 := hts (.constantLong RX7 114 (2)) (by decide +kernel)
  have hk_f43 := hts (.fieldLink RX7 43 "ChanceNetsModel" "lows" "[J") (by decide +kernel)
  have hin_X7 : ∀ w ∈ u_ws RX7 TX7 19, w ∈ wsX7_reduced := by decide +kernel
  have hk_f7 := hts (.fieldLink RX7 7 "ChanceNetsModel" "rows" "[I") (by decide +kernel)
  have hk_f13 := hts (.fieldLink RX7 13 "ChanceNetsModel" "nodes" "I") (by decide +kernel)
  have hk_f40 := hts (.fieldLink RX7 40 "ChanceNetsModel" "ups" "[J") (by decide +kernel)
  have hk_c192 := hts (.constantLong RX7 192 (-9)) (by decide +kernel)
  have hk_c165 := hts (.constantLong RX7 165 (-2)) (by decide +kernel)
  unfold f_X7_reduced at hB
  refine lv_aload_n hx hb dX7_reduced_0 rfl (lv_at hl 0 rfl) ?_
  refine lv_iload_n hx hb dX7_reduced_1 rfl (lv_at hl 1 rfl) ?_
  obtain ⟨t1, ht1, hB⟩ := bi_at hB
  refine r_ViP ⟨hx, hb, hml, hown, hts⟩ (c_X7_isNode l dC dI ad cA σ a1 t1 ht1) (cwV 1 hts gX7_reduced_X7_isNode rfl rfl rfl (by decide +kernel) ⟨Nat.le_of_ble_eq_true rfl, Nat.le_of_ble_eq_true rfl⟩) hK hN hS (by decide) e_45 rfl rfl hl.1 rfl (Nat.le_of_ble_eq_true rfl) dX7_reduced_2 ⟨Nat.le_refl _, Nat.le_refl _⟩ (fun H locs hS => ?_)
  refine lv_if_eq (tgt := 33) hx hb dX7_reduced_5 (by decide) (fun c2 => ?_) (fun c2 => ?_)
  · have hB := it_t c2 hB
    refine lv_ldc2 (v := (-1 : Int64)) hx hb hown hk_c149 dX7_reduced_33 ?_
    subst hQ
    exact r_lret hx hb hr hK hS hB hlocks dX7_reduced_36
  · have hB := it_f c2 hB
    refine lv_aload_n hx hb dX7_reduced_8 rfl (lv_at hl 0 rfl) ?_
    refine lv_iload_n hx hb dX7_reduced_9 rfl (lv_at hl 2 rfl) ?_
    obtain ⟨t3, ht3, hB⟩ := bi_at hB
    refine r_ViP ⟨hx, hb, hml, hown, hts⟩ (c_X7_isNode l dC dI ad cA σ a2 t3 ht3) (cwV 1 hts gX7_reduced_X7_isNode rfl rfl rfl (by decide +kernel) ⟨Nat.le_of_ble_eq_true rfl, Nat.le_of_ble_eq_true rfl⟩) hK hN hS (by decide) e_45 rfl rfl hl.1 rfl (Nat.le_of_ble_eq_true rfl) dX7_reduced_10 ⟨Nat.le_refl _, Nat.le_refl _⟩ (fun H locs hS => ?_)
    refine lv_if_eq (tgt := 33) hx hb dX7_reduced_13 (by decide) (fun c4 => ?_) (fun c4 => ?_)
    · have hB := it_t c4 hB
      refine lv_ldc2 (v := (-1 : Int64)) hx hb hown hk_c149 dX7_reduced_33 ?_
      subst hQ
      exact r_lret hx hb hr hK hS hB hlocks dX7_reduced_36
    · have hB := it_f c4 hB
      refine lv_iload_n hx hb dX7_reduced_16 rfl (lv_at hl 1 rfl) ?_
      refine lv_iload_n hx hb dX7_reduced_17 rfl (lv_at hl 2 rfl) ?_
      refine lv_icmp_eq (tgt := 33) hx hb dX7_reduced_18 (by decide) (fun c5 => ?_) (fun c5 => ?_)
      · have hB := it_t c5 hB
        refine lv_ldc2 (v := (-1 : Int64)) hx hb hown hk_c149 dX7_reduced_33 ?_
        subst hQ
        exact r_lret hx hb hr hK hS hB hlocks dX7_reduced_36
      · have hB := it_f c5 hB
        refine lv_iload_n hx hb dX7_reduced_21 rfl (lv_at hl 3 rfl) ?_
        refine lv_i2l hx hb dX7_reduced_22 rfl ?_
        refine lv_lconst (v := (0 : Int64)) hx hb dX7_reduced_23 (by decide) ?_
        refine lv_ldc2 (v := (2 : Int64)) hx hb hown hk_c114 dX7_reduced_24 ?_
        obtain ⟨t6, ht6, hB⟩ := bi_at hB
        refine r_SiP ⟨hx, hb, hml, hown, hts⟩ (c_X7_in l dC dI ad cA σ a3.toInt64 (0 : Int64) (2 : Int64) t6 ht6) (va_cwS 3 hts gX7_reduced_X7_in rfl rfl rfl (by decide +kernel) ⟨Nat.le_of_ble_eq_true rfl, Nat.le_of_ble_eq_true rfl⟩) hK hN hS rfl hl.1 rfl (Nat.le_of_ble_eq_true rfl) dX7_reduced_27 ⟨Nat.le_refl _, Nat.le_refl _⟩ (fun H locs hS => ?_)
        refine lv_if_ne (tgt := 37) hx hb dX7_reduced_30 (by decide) (fun c7 => ?_) (fun c7 => ?_)
        · have hB := it_f c7 hB
          refine lv_aload_n hx hb dX7_reduced_37 rfl (lv_at hl 0 rfl) ?_
          refine lv_bipush (v := (-9 : Int32)) hx hb dX7_reduced_38 (by decide) ?_
          obtain ⟨t8, ht8, hB⟩ := bi_at hB
          refine r_Vi ⟨hx, hb, hml, hown, hts⟩ (c_X7_hangs l dC dI ad cA σ (-9 : Int32) t8 ht8) (cwV 1 hts gX7_reduced_X7_hangs rfl rfl rfl (by decide +kernel) ⟨Nat.le_of_ble_eq_true rfl, Nat.le_of_ble_eq_true rfl⟩) hK hN hS (by decide) e_45 rfl rfl hl.1 rfl (Nat.le_of_ble_eq_true rfl) dX7_reduced_40 ⟨Nat.le_refl _, Nat.le_refl _⟩ (fun H locs hS => ?_)
          refine lv_if_ne (tgt := 50) hx hb dX7_reduced_43 (by decide) (fun c9 => ?_) (fun c9 => ?_)
          · have hB := it_f c9 hB
            refine lv_iconst (v := (0 : Int32)) hx hb dX7_reduced_50 (by decide) ?_
            refine lv_istore (lv' := [(4, .int (0 : Int32)), (0, .ref (ad 45)), (1, .int a1), (2, .int a2), (3, .int a3)]) hx hb dX7_reduced_51 hl (by decide) rfl (fun ls hl => ?_)
            obtain ⟨t16, ht16, hB⟩ := bi_at hB
            refine wl_W (body := fun a => f_X7_reduced_B53 a.1 a.2) (Hd := fun a : Int32 × Sg => ∀ (H : Heap) (locs : List Loc) (ls : Array Slot), ST dC dI ad cA s a.2 H locs → lv_has ls 7 [(0, .ref (ad 45)), (1, .int a1), (2, .int a2), (3, .int a3), (4, .int a.1)] → W p l e (RM 3 88) s m args below meth c H locs 0 0 Q (F0 m 53 ls [])) (Ex := fun b : Sg => ∀ (H : Heap) (locs : List Loc) (ls : Array Slot), ST dC dI ad cA s b H locs → lv_has ls 7 [(0, .ref (ad 45)), (1, .int a1), (2, .int a2), (3, .int a3)] → W p l e (RM 3 88) s m args below meth c H locs 0 0 Q (F0 m 74 ls [])) ?_ FU _ t16 ht16 ?_ H locs ls hS (lv_sub hl [1, 2, 3, 4, 0] rfl)
            · intro a r53 hB hI53 hE53 H locs ls hS hl
              obtain ⟨x10, σ11⟩ := a
              have hB : f_X7_reduced_B53 x10 σ11 = some r53 := hB
              unfold f_X7_reduced_B53 at hB
              have hS : ST dC dI ad cA s σ11 H locs := hS
              have hl : lv_has ls 7 [(0, .ref (ad 45)), (1, .int a1), (2, .int a2), (3, .int a3), (4, .int x10)] := hl
              show W p l e (RM 3 88) s m args below meth c H locs 0 0 Q (F0 m 53 ls [])
              refine lv_iload hx hb dX7_reduced_53 (lv_at hl 4 rfl) ?_
              refine lv_bipush (v := (36 : Int32)) hx hb dX7_reduced_55 (by decide) ?_
              refine lv_icmp_ge (tgt := 74) hx hb dX7_reduced_57 (by decide) (fun c12 => ?_) (fun c12 => ?_)
              · have hB := it_t c12 hB
                exact hE53 _ (Option.some.inj hB).symm H locs ls hS (lv_sub hl [0, 1, 2, 3] rfl)
              · have hB := it_f c12 hB
                refine lv_aload_n hx hb dX7_reduced_60 rfl (lv_at hl 0 rfl) ?_
                refine r_get (v := .ref (ad 55)) (C := RX7) (T := TX7) (N := 19) hx hb hts hin_X7 hown hK hS (by decide) e_45 rfl 18 (by decide) hk_f43 rfl rfl dX7_reduced_61 ?_
                refine lv_iload hx hb dX7_reduced_64 (lv_at hl 4 rfl) ?_
                refine lv_lconst (v := (0 : Int64)) hx hb dX7_reduced_66 (by decide) ?_
                obtain ⟨h13, hB⟩ := gd_at hB
                refine r_last hx hb hK hS h13 dX7_reduced_67 (fun H locs hS => ?_)
                obtain ⟨σ14, eσ14⟩ : ∃ t : Sg, t = pJ σ11 55 x10.toNatClampNeg (0 : Int64) := ⟨_, rfl⟩
                rw [← eσ14] at hS
                have hB := vl_at eσ14 hB
                obtain ⟨x15, ex15⟩ : ∃ y : Int32, y = x10 + (1 : Int32) := ⟨_, rfl⟩
                have hB := vl_at ex15 hB
                refine lv_iinc (v := x15) (lv' := [(4, .int x15), (0, .ref (ad 45)), (1, .int a1), (2, .int a2), (3, .int a3)]) hx hb dX7_reduced_68 hl (k := 4) rfl (by rw [ex15]; rfl) (by decide) rfl (fun ls hl => ?_)
                refine lv_goto (tgt := 53) hx hb dX7_reduced_71 (by decide) ?_
                exact hI53 _ (Option.some.inj hB).symm H locs ls hS (lv_sub hl [1, 2, 3, 4, 0] rfl)
            · skip
              intro H locs ls hS hl
              have hS : ST dC dI ad cA s t16 H locs := hS
              have hl : lv_has ls 7 [(0, .ref (ad 45)), (1, .int a1), (2, .int a2), (3, .int a3)] := hl
              show W p l e (RM 3 88) s m args below meth c H locs 0 0 Q (F0 m 74 ls [])
              refine lv_iconst (v := (0 : Int32)) hx hb dX7_reduced_74 (by decide) ?_
              refine lv_istore (lv' := [(4, .int (0 : Int32)), (0, .ref (ad 45)), (1, .int a1), (2, .int a2), (3, .int a3)]) hx hb dX7_reduced_75 hl (by decide) rfl (fun ls hl => ?_)
              obtain ⟨t26, ht26, hB⟩ := bi_at hB
              refine wl_W (body := fun a => f_X7_reduced_B77 a.1 a.2) (Hd := fun a : Int32 × Sg => ∀ (H : Heap) (locs : List Loc) (ls : Array Slot), ST dC dI ad cA s a.2 H locs → lv_has ls 7 [(0, .ref (ad 45)), (1, .int a1), (2, .int a2), (3, .int a3), (4, .int a.1)] → W p l e (RM 3 88) s m args below meth c H locs 0 0 Q (F0 m 77 ls [])) (Ex := fun b : Sg => ∀ (H : Heap) (locs : List Loc) (ls : Array Slot), ST dC dI ad cA s b H locs → lv_has ls 7 [(0, .ref (ad 45)), (1, .int a1), (2, .int a2), (3, .int a3)] → W p l e (RM 3 88) s m args below meth c H locs 0 0 Q (F0 m 127 ls [])) ?_ FU _ t26 ht26 ?_ H locs ls hS (lv_sub hl [1, 2, 3, 4, 0] rfl)
              · intro a r77 hB hI77 hE77 H locs ls hS hl
                obtain ⟨x17, σ18⟩ := a
                have hB : f_X7_reduced_B77 x17 σ18 = some r77 := hB
                unfold f_X7_reduced_B77 at hB
                have hS : ST dC dI ad cA s σ18 H locs := hS
                have hl : lv_has ls 7 [(0, .ref (ad 45)), (1, .int a1), (2, .int a2), (3, .int a3), (4, .int x17)] := hl
                show W p l e (RM 3 88) s m args below meth c H locs 0 0 Q (F0 m 77 ls [])
                refine lv_iload hx hb dX7_reduced_77 (lv_at hl 4 rfl) ?_
                refine lv_aload_n hx hb dX7_reduced_79 rfl (lv_at hl 0 rfl) ?_
                obtain ⟨t19, ht19, hB⟩ := bi_at hB
                refine r_ViP ⟨hx, hb, hml, hown, hts⟩ (c_X7_lines l dC dI ad cA σ18 t19 ht19) (cwV 0 hts gX7_reduced_X7_lines rfl rfl rfl (by decide +kernel) ⟨Nat.le_of_ble_eq_true rfl, Nat.le_of_ble_eq_true rfl⟩) hK hN hS (by decide) e_45 rfl rfl hl.1 rfl (Nat.le_of_ble_eq_true rfl) dX7_reduced_80 ⟨Nat.le_refl _, Nat.le_refl _⟩ (fun H locs hS => ?_)
                refine lv_icmp_ge (tgt := 127) hx hb dX7_reduced_83 (by decide) (fun c20 => ?_) (fun c20 => ?_)
                · have hB := it_t c20 hB
                  exact hE77 _ (Option.some.inj hB).symm H locs ls hS (lv_sub hl [0, 1, 2, 3] rfl)
                · have hB := it_f c20 hB
                  refine lv_aload_n hx hb dX7_reduced_86 rfl (lv_at hl 0 rfl) ?_
                  refine lv_aload_n hx hb dX7_reduced_87 rfl (lv_at hl 0 rfl) ?_
                  refine r_get (v := .ref (ad 46)) (C := RX7) (T := TX7) (N := 19) hx hb hts hin_X7 hown hK hS (by decide) e_45 rfl 0 (by decide) hk_f7 rfl rfl dX7_reduced_88 ?_
                  refine lv_iconst (v := (1 : Int32)) hx hb dX7_reduced_91 (by decide) ?_
                  refine lv_iload hx hb dX7_reduced_92 (lv_at hl 4 rfl) ?_
                  refine lv_iadd hx hb dX7_reduced_94 ?_
                  obtain ⟨h21, hB⟩ := gd_at hB
                  refine r_iald hx hb hK hS h21 dX7_reduced_95 ?_
                  refine lv_aload_n hx hb dX7_reduced_96 rfl (lv_at hl 0 rfl) ?_
                  refine r_get (v := .ref (ad 46)) (C := RX7) (T := TX7) (N := 19) hx hb hts hin_X7 hown hK hS (by decide) e_45 rfl 0 (by decide) hk_f7 rfl rfl dX7_reduced_97 ?_
                  refine lv_bipush (v := (11 : Int32)) hx hb dX7_reduced_100 (by decide) ?_
                  refine lv_iload hx hb dX7_reduced_102 (lv_at hl 4 rfl) ?_
                  refine lv_iadd hx hb dX7_reduced_104 ?_
                  obtain ⟨h22, hB⟩ := gd_at hB
                  refine r_iald hx hb hK hS h22 dX7_reduced_105 ?_
                  refine lv_lconst (v := (1 : Int64)) hx hb dX7_reduced_106 (by decide) ?_
                  refine lv_aload_n hx hb dX7_reduced_107 rfl (lv_at hl 0 rfl) ?_
                  refine r_get (v := .ref (ad 46)) (C := RX7) (T := TX7) (N := 19) hx hb hts hin_X7 hown hK hS (by decide) e_45 rfl 0 (by decide) hk_f7 rfl rfl dX7_reduced_108 ?_
                  refine lv_bipush (v := (21 : Int32)) hx hb dX7_reduced_111 (by decide) ?_
                  refine lv_iload hx hb dX7_reduced_113 (lv_at hl 4 rfl) ?_
                  refine lv_iadd hx hb dX7_reduced_115 ?_
                  obtain ⟨h23, hB⟩ := gd_at hB
                  refine r_iald hx hb hK hS h23 dX7_reduced_116 ?_
                  refine lv_i2l hx hb dX7_reduced_117 rfl ?_
                  obtain ⟨t24, ht24, hB⟩ := bi_at hB
                  refine r_Vv ⟨hx, hb, hml, hown, hts⟩ (c_X7_resists l dC dI ad cA σ18 (gA σ18 46 ((1 : Int32) + x17).toNatClampNeg) (gA σ18 46 ((11 : Int32) + x17).toNatClampNeg) (1 : Int64) ((gA σ18 46 ((21 : Int32) + x17).toNatClampNeg).toInt64) t24 ht24) (cwV 4 hts gX7_reduced_X7_resists rfl rfl rfl (by decide +kernel) ⟨Nat.le_of_ble_eq_true rfl, Nat.le_of_ble_eq_true rfl⟩) hK hN hS (by decide) e_45 rfl rfl hl.1 rfl (Nat.le_of_ble_eq_true rfl) dX7_reduced_118 ⟨Nat.le_refl _, Nat.le_refl _⟩ (fun H locs hS => ?_)
                  obtain ⟨x25, ex25⟩ : ∃ y : Int32, y = x17 + (1 : Int32) := ⟨_, rfl⟩
                  have hB := vl_at ex25 hB
                  refine lv_iinc (v := x25) (lv' := [(4, .int x25), (0, .ref (ad 45)), (1, .int a1), (2, .int a2), (3, .int a3)]) hx hb dX7_reduced_121 hl (k := 4) rfl (by rw [ex25]; rfl) (by decide) rfl (fun ls hl => ?_)
                  refine lv_goto (tgt := 77) hx hb dX7_reduced_124 (by decide) ?_
                  exact hI77 _ (Option.some.inj hB).symm H locs ls hS (lv_sub hl [1, 2, 3, 4, 0] rfl)
              · skip
                intro H locs ls hS hl
                have hS : ST dC dI ad cA s t26 H locs := hS
                have hl : lv_has ls 7 [(0, .ref (ad 45)), (1, .int a1), (2, .int a2), (3, .int a3)] := hl
                show W p l e (RM 3 88) s m args below meth c H locs 0 0 Q (F0 m 127 ls [])
                refine lv_iconst (v := (1 : Int32)) hx hb dX7_reduced_127 (by decide) ?_
                refine lv_istore (lv' := [(4, .int (1 : Int32)), (0, .ref (ad 45)), (1, .int a1), (2, .int a2), (3, .int a3)]) hx hb dX7_reduced_128 hl (by decide) rfl (fun ls hl => ?_)
                obtain ⟨t47, ht47, hB⟩ := bi_at hB
                refine wl_W (body := fun a => f_X7_reduced_B130 a1 a2 a.1 a.2) (Hd := fun a : Int32 × Sg => ∀ (H : Heap) (locs : List Loc) (ls : Array Slot), ST dC dI ad cA s a.2 H locs → lv_has ls 7 [(0, .ref (ad 45)), (1, .int a1), (2, .int a2), (3, .int a3), (4, .int a.1)] → W p l e (RM 3 88) s m args below meth c H locs 0 0 Q (F0 m 130 ls [])) (Ex := fun b : Sg => ∀ (H : Heap) (locs : List Loc) (ls : Array Slot), ST dC dI ad cA s b H locs → lv_has ls 7 [(0, .ref (ad 45)), (1, .int a1), (2, .int a2), (3, .int a3)] → W p l e (RM 3 88) s m args below meth c H locs 0 0 Q (F0 m 219 ls [])) ?_ FU _ t47 ht47 ?_ H locs ls hS (lv_sub hl [1, 2, 3, 4, 0] rfl)
                · intro a r130 hB hI130 hE130 H locs ls hS hl
                  obtain ⟨x27, σ28⟩ := a
                  have hB : f_X7_reduced_B130 a1 a2 x27 σ28 = some r130 := hB
                  unfold f_X7_reduced_B130 at hB
                  have hS : ST dC dI ad cA s σ28 H locs := hS
                  have hl : lv_has ls 7 [(0, .ref (ad 45)), (1, .int a1), (2, .int a2), (3, .int a3), (4, .int x27)] := hl
                  show W p l e (RM 3 88) s m args below meth c H locs 0 0 Q (F0 m 130 ls [])
                  refine lv_iload hx hb dX7_reduced_130 (lv_at hl 4 rfl) ?_
                  refine lv_if_eq (tgt := 219) hx hb dX7_reduced_132 (by decide) (fun c29 => ?_) (fun c29 => ?_)
                  · have hB := it_t c29 hB
                    exact hE130 _ (Option.some.inj hB).symm H locs ls hS (lv_sub hl [0, 1, 2, 3] rfl)
                  · have hB := it_f c29 hB
                    refine lv_iconst (v := (0 : Int32)) hx hb dX7_reduced_135 (by decide) ?_
                    refine lv_istore (lv' := [(5, .int (0 : Int32)), (0, .ref (ad 45)), (1, .int a1), (2, .int a2), (3, .int a3), (4, .int x27)]) hx hb dX7_reduced_136 hl (by decide) rfl (fun ls hl => ?_)
                    obtain ⟨t42, ht42, hB⟩ := bi_at hB
                    refine wl_W (body := fun a => f_X7_reduced_B138 a1 a2 σ28 a) (Hd := fun a : Int32 => ∀ (H : Heap) (locs : List Loc) (ls : Array Slot), ST dC dI ad cA s σ28 H locs → lv_has ls 7 [(0, .ref (ad 45)), (1, .int a1), (2, .int a2), (3, .int a3), (5, .int a)] → W p l e (RM 3 88) s m args below meth c H locs 0 0 Q (F0 m 138 ls [])) (Ex := fun b : Int32 => ∀ (H : Heap) (locs : List Loc) (ls : Array Slot), ST dC dI ad cA s σ28 H locs → lv_has ls 7 [(0, .ref (ad 45)), (1, .int a1), (2, .int a2), (3, .int a3), (5, .int b)] → W p l e (RM 3 88) s m args below meth c H locs 0 0 Q (F0 m 189 ls [])) ?_ FU _ t42 ht42 ?_ H locs ls hS (lv_sub hl [1, 2, 3, 4, 0] rfl)
                    · intro a r138 hB hI138 hE138 H locs ls hS hl
                      obtain ⟨x30, rfl⟩ : ∃ y, y = a := ⟨_, rfl⟩
                      have hB : f_X7_reduced_B138 a1 a2 σ28 x30 = some r138 := hB
                      unfold f_X7_reduced_B138 at hB
                      have hS : ST dC dI ad cA s σ28 H locs := hS
                      have hl : lv_has ls 7 [(0, .ref (ad 45)), (1, .int a1), (2, .int a2), (3, .int a3), (5, .int x30)] := hl
                      show W p l e (RM 3 88) s m args below meth c H locs 0 0 Q (F0 m 138 ls [])
                      refine lv_iload hx hb dX7_reduced_138 (lv_at hl 4 rfl) ?_
                      refine lv_aload_n hx hb dX7_reduced_140 rfl (lv_at hl 0 rfl) ?_
                      refine r_get (v := .int (gI σ28 17)) (C := RX7) (T := TX7) (N := 19) hx hb hts hin_X7 hown hK hS (by decide) e_45 rfl 1 (by decide) hk_f13 rfl rfl dX7_reduced_141 ?_
                      refine lv_icmp_ge (tgt := 189) hx hb dX7_reduced_144 (by decide) (fun c31 => ?_) (fun c31 => ?_)
                      · have hB := it_t c31 hB
                        exact hE138 _ (Option.some.inj hB).symm H locs ls hS (lv_sub hl [0, 1, 2, 3, 4] rfl)
                      · have hB := it_f c31 hB
                        refine lv_iload hx hb dX7_reduced_147 (lv_at hl 4 rfl) ?_
                        refine lv_iload_n hx hb dX7_reduced_149 rfl (lv_at hl 1 rfl) ?_
                        refine lv_icmp_eq (tgt := 183) hx hb dX7_reduced_150 (by decide) (fun c32 => ?_) (fun c32 => ?_)
                        · have hB := it_t c32 hB
                          obtain ⟨x33, ex33⟩ : ∃ y : Int32, y = x30 + (1 : Int32) := ⟨_, rfl⟩
                          have hB := vl_at ex33 hB
                          refine lv_iinc (v := x33) (lv' := [(5, .int x33), (0, .ref (ad 45)), (1, .int a1), (2, .int a2), (3, .int a3)]) hx hb dX7_reduced_183 hl (k := 4) rfl (by rw [ex33]; rfl) (by decide) rfl (fun ls hl => ?_)
                          refine lv_goto (tgt := 138) hx hb dX7_reduced_186 (by decide) ?_
                          exact hI138 _ (Option.some.inj hB).symm H locs ls hS (lv_sub hl [1, 2, 3, 4, 0] rfl)
                        · have hB := it_f c32 hB
                          refine lv_iload hx hb dX7_reduced_153 (lv_at hl 4 rfl) ?_
                          refine lv_iload_n hx hb dX7_reduced_155 rfl (lv_at hl 2 rfl) ?_
                          refine lv_icmp_eq (tgt := 183) hx hb dX7_reduced_156 (by decide) (fun c34 => ?_) (fun c34 => ?_)
                          · have hB := it_t c34 hB
                            obtain ⟨x35, ex35⟩ : ∃ y : Int32, y = x30 + (1 : Int32) := ⟨_, rfl⟩
                            have hB := vl_at ex35 hB
                            refine lv_iinc (v := x35) (lv' := [(5, .int x35), (0, .ref (ad 45)), (1, .int a1), (2, .int a2), (3, .int a3)]) hx hb dX7_reduced_183 hl (k := 4) rfl (by rw [ex35]; rfl) (by decide) rfl (fun ls hl => ?_)
                            refine lv_goto (tgt := 138) hx hb dX7_reduced_186 (by decide) ?_
                            exact hI138 _ (Option.some.inj hB).symm H locs ls hS (lv_sub hl [1, 2, 3, 4, 0] rfl)
                          · have hB := it_f c34 hB
                            refine lv_aload_n hx hb dX7_reduced_159 rfl (lv_at hl 0 rfl) ?_
                            refine lv_iload hx hb dX7_reduced_160 (lv_at hl 4 rfl) ?_
                            refine lv_iconst (v := (0 : Int32)) hx hb dX7_reduced_162 (by decide) ?_
                            obtain ⟨t36, ht36, hB⟩ := bi_at hB
                            refine r_ViP ⟨hx, hb, hml, hown, hts⟩ (c_X7_neighbour l dC dI ad cA σ28 x30 (0 : Int32) t36 ht36) (cwV 2 hts gX7_reduced_X7_neighbour rfl rfl rfl (by decide +kernel) ⟨Nat.le_of_ble_eq_true rfl, Nat.le_of_ble_eq_true rfl⟩) hK hN hS (by decide) e_45 rfl rfl hl.1 rfl (Nat.le_of_ble_eq_true rfl) dX7_reduced_163 ⟨Nat.le_refl _, Nat.le_refl _⟩ (fun H locs hS => ?_)
                            refine lv_bipush (v := (-9 : Int32)) hx hb dX7_reduced_166 (by decide) ?_
                            refine lv_icmp_eq (tgt := 183) hx hb dX7_reduced_168 (by decide) (fun c37 => ?_) (fun c37 => ?_)
                            · have hB := it_t c37 hB
                              obtain ⟨x38, ex38⟩ : ∃ y : Int32, y = x30 + (1 : Int32) := ⟨_, rfl⟩
                              have hB := vl_at ex38 hB
                              refine lv_iinc (v := x38) (lv' := [(5, .int x38), (0, .ref (ad 45)), (1, .int a1), (2, .int a2), (3, .int a3)]) hx hb dX7_reduced_183 hl (k := 4) rfl (by rw [ex38]; rfl) (by decide) rfl (fun ls hl => ?_)
                              refine lv_goto (tgt := 138) hx hb dX7_reduced_186 (by decide) ?_
                              exact hI138 _ (Option.some.inj hB).symm H locs ls hS (lv_sub hl [1, 2, 3, 4, 0] rfl)
                            · have hB := it_f c37 hB
                              refine lv_aload_n hx hb dX7_reduced_171 rfl (lv_at hl 0 rfl) ?_
                              refine lv_iload hx hb dX7_reduced_172 (lv_at hl 4 rfl) ?_
                              refine lv_iconst (v := (2 : Int32)) hx hb dX7_reduced_174 (by decide) ?_
                              obtain ⟨t39, ht39, hB⟩ := bi_at hB
                              refine r_ViP ⟨hx, hb, hml, hown, hts⟩ (c_X7_neighbour l dC dI ad cA σ28 x30 (2 : Int32) t39 ht39) (cwV 2 hts gX7_reduced_X7_neighbour rfl rfl rfl (by decide +kernel) ⟨Nat.le_of_ble_eq_true rfl, Nat.le_of_ble_eq_true rfl⟩) hK hN hS (by decide) e_45 rfl rfl hl.1 rfl (Nat.le_of_ble_eq_true rfl) dX7_reduced_175 ⟨Nat.le_refl _, Nat.le_refl _⟩ (fun H locs hS => ?_)
                              refine lv_bipush (v := (-9 : Int32)) hx hb dX7_reduced_178 (by decide) ?_
                              refine lv_icmp_eq (tgt := 189) hx hb dX7_reduced_180 (by decide) (fun c40 => ?_) (fun c40 => ?_)
                              · have hB := it_t c40 hB
                                exact hE138 _ (Option.some.inj hB).symm H locs ls hS (lv_sub hl [0, 1, 2, 3, 4] rfl)
                              · have hB := it_f c40 hB
                                obtain ⟨x41, ex41⟩ : ∃ y : Int32, y = x30 + (1 : Int32) := ⟨_, rfl⟩
                                have hB := vl_at ex41 hB
                                refine lv_iinc (v := x41) (lv' := [(5, .int x41), (0, .ref (ad 45)), (1, .int a1), (2, .int a2), (3, .int a3)]) hx hb dX7_reduced_183 hl (k := 4) rfl (by rw [ex41]; rfl) (by decide) rfl (fun ls hl => ?_)
                                refine lv_goto (tgt := 138) hx hb dX7_reduced_186 (by decide) ?_
                                exact hI138 _ (Option.some.inj hB).symm H locs ls hS (lv_sub hl [1, 2, 3, 4, 0] rfl)
                    · skip
                      intro H locs ls hS hl
                      have hS : ST dC dI ad cA s σ28 H locs := hS
                      have hl : lv_has ls 7 [(0, .ref (ad 45)), (1, .int a1), (2, .int a2), (3, .int a3), (5, .int t42)] := hl
                      show W p l e (RM 3 88) s m args below meth c H locs 0 0 Q (F0 m 189 ls [])
                      refine lv_iload hx hb dX7_reduced_189 (lv_at hl 4 rfl) ?_
                      refine lv_aload_n hx hb dX7_reduced_191 rfl (lv_at hl 0 rfl) ?_
                      refine r_get (v := .int (gI σ28 17)) (C := RX7) (T := TX7) (N := 19) hx hb hts hin_X7 hown hK hS (by decide) e_45 rfl 1 (by decide) hk_f13 rfl rfl dX7_reduced_192 ?_
                      have hJ203 : ∀ (x43 : Int32) (H : Heap) (locs : List Loc) (ls : Array Slot), f_X7_reduced_J203 σ28 t42 x43 = some r130 → ST dC dI ad cA s σ28 H locs → lv_has ls 7 [(0, .ref (ad 45)), (1, .int a1), (2, .int a2), (3, .int a3), (5, .int t42)] → W p l e (RM 3 88) s m args below meth c H locs 0 0 Q (F0 m 203 ls [.int x43]) := by
                        intro x43 H locs ls hB hS hl
                        unfold f_X7_reduced_J203 at hB
                        refine lv_istore (lv' := [(4, .int x43), (0, .ref (ad 45)), (1, .int a1), (2, .int a2), (3, .int a3), (5, .int t42)]) hx hb dX7_reduced_203 hl (by decide) rfl (fun ls hl => ?_)
                        refine lv_iload hx hb dX7_reduced_205 (lv_at hl 0 rfl) ?_
                        refine lv_if_eq (tgt := 216) hx hb dX7_reduced_207 (by decide) (fun c44 => ?_) (fun c44 => ?_)
                        · have hB := it_t c44 hB
                          refine lv_goto (tgt := 130) hx hb dX7_reduced_216 (by decide) ?_
                          exact hI130 _ (Option.some.inj hB).symm H locs ls hS (lv_sub hl [1, 2, 3, 4, 0] rfl)
                        · have hB := it_f c44 hB
                          refine lv_aload_n hx hb dX7_reduced_210 rfl (lv_at hl 1 rfl) ?_
                          refine lv_iload hx hb dX7_reduced_211 (lv_at hl 5 rfl) ?_
                          obtain ⟨t45, ht45, hB⟩ := bi_at hB
                          refine r_Vv ⟨hx, hb, hml, hown, hts⟩ (c_X7_goes l dC dI ad cA σ28 t42 t45 ht45) (cwV 1 hts gX7_reduced_X7_goes rfl rfl rfl (by decide +kernel) ⟨Nat.le_of_ble_eq_true rfl, Nat.le_of_ble_eq_true rfl⟩) hK hN hS (by decide) e_45 rfl rfl hl.1 rfl (Nat.le_of_ble_eq_true rfl) dX7_reduced_213 ⟨Nat.le_refl _, Nat.le_refl _⟩ (fun H locs hS => ?_)
                          refine lv_goto (tgt := 130) hx hb dX7_reduced_216 (by decide) ?_
                          exact hI130 _ (Option.some.inj hB).symm H locs ls hS (lv_sub hl [1, 2, 3, 4, 0] rfl)
                      refine lv_icmp_ge (tgt := 202) hx hb dX7_reduced_195 (by decide) (fun c46 => ?_) (fun c46 => ?_)
                      · have hB := it_t c46 hB
                        refine lv_iconst (v := (0 : Int32)) hx hb dX7_reduced_202 (by decide) ?_
                        exact hJ203 (0 : Int32) H locs ls hB hS (lv_sub hl [0, 1, 2, 3, 4] rfl)
                      · have hB := it_f c46 hB
                        refine lv_iconst (v := (1 : Int32)) hx hb dX7_reduced_198 (by decide) ?_
                        refine lv_goto (tgt := 203) hx hb dX7_reduced_199 (by decide) ?_
                        exact hJ203 (1 : Int32) H locs ls hB hS (lv_sub hl [0, 1, 2, 3, 4] rfl)
                · skip
                  intro H locs ls hS hl
                  have hS : ST dC dI ad cA s t47 H locs := hS
                  have hl : lv_has ls 7 [(0, .ref (ad 45)), (1, .int a1), (2, .int a2), (3, .int a3)] := hl
                  show W p l e (RM 3 88) s m args below meth c H locs 0 0 Q (F0 m 219 ls [])
                  refine lv_iconst (v := (0 : Int32)) hx hb dX7_reduced_219 (by decide) ?_
                  refine lv_istore (lv' := [(5, .int (0 : Int32)), (0, .ref (ad 45)), (1, .int a1), (2, .int a2), (3, .int a3)]) hx hb dX7_reduced_220 hl (by decide) rfl (fun ls hl => ?_)
                  refine lv_iconst (v := (0 : Int32)) hx hb dX7_reduced_222 (by decide) ?_
                  refine lv_istore (lv' := [(6, .int (0 : Int32)), (5, .int (0 : Int32)), (0, .ref (ad 45)), (1, .int a1), (2, .int a2), (3, .int a3)]) hx hb dX7_reduced_223 hl (by decide) rfl (fun ls hl => ?_)
                  obtain ⟨t58, ht58, hB⟩ := bi_at hB
                  refine wl_W (body := fun a => f_X7_reduced_B225 t47 a.1 a.2) (Hd := fun a : Int32 × Int32 => ∀ (H : Heap) (locs : List Loc) (ls : Array Slot), ST dC dI ad cA s t47 H locs → lv_has ls 7 [(0, .ref (ad 45)), (1, .int a1), (2, .int a2), (3, .int a3), (5, .int a.1), (6, .int a.2)] → W p l e (RM 3 88) s m args below meth c H locs 0 0 Q (F0 m 225 ls [])) (Ex := fun b : Int32 => ∀ (H : Heap) (locs : List Loc) (ls : Array Slot), ST dC dI ad cA s t47 H locs → lv_has ls 7 [(0, .ref (ad 45)), (1, .int a1), (2, .int a2), (3, .int a3), (5, .int b)] → W p l e (RM 3 88) s m args below meth c H locs 0 0 Q (F0 m 273 ls [])) ?_ FU _ t58 ht58 ?_ H locs ls hS (lv_sub hl [2, 3, 4, 5, 1, 0] rfl)
                  · intro a r225 hB hI225 hE225 H locs ls hS hl
                    obtain ⟨x48, x49⟩ := a
                    have hB : f_X7_reduced_B225 t47 x48 x49 = some r225 := hB
                    unfold f_X7_reduced_B225 at hB
                    have hS : ST dC dI ad cA s t47 H locs := hS
                    have hl : lv_has ls 7 [(0, .ref (ad 45)), (1, .int a1), (2, .int a2), (3, .int a3), (5, .int x48), (6, .int x49)] := hl
                    show W p l e (RM 3 88) s m args below meth c H locs 0 0 Q (F0 m 225 ls [])
                    refine lv_iload hx hb dX7_reduced_225 (lv_at hl 5 rfl) ?_
                    refine lv_bipush (v := (36 : Int32)) hx hb dX7_reduced_227 (by decide) ?_
                    refine lv_icmp_ge (tgt := 273) hx hb dX7_reduced_229 (by decide) (fun c50 => ?_) (fun c50 => ?_)
                    · have hB := it_t c50 hB
                      exact hE225 _ (Option.some.inj hB).symm H locs ls hS (lv_sub hl [0, 1, 2, 3, 4] rfl)
                    · have hB := it_f c50 hB
                      refine lv_iload hx hb dX7_reduced_232 (lv_at hl 4 rfl) ?_
                      refine lv_aload_n hx hb dX7_reduced_234 rfl (lv_at hl 0 rfl) ?_
                      refine r_get (v := .ref (ad 55)) (C := RX7) (T := TX7) (N := 19) hx hb hts hin_X7 hown hK hS (by decide) e_45 rfl 18 (by decide) hk_f43 rfl rfl dX7_reduced_235 ?_
                      refine lv_iload hx hb dX7_reduced_238 (lv_at hl 5 rfl) ?_
                      obtain ⟨h51, hB⟩ := gd_at hB
                      refine r_lald hx hb hK hS h51 dX7_reduced_240 ?_
                      refine lv_lconst (v := (0 : Int64)) hx hb dX7_reduced_241 (by decide) ?_
                      refine W.lcmp hx hb dX7_reduced_242 ?_
                      have hJ263 : ∀ (H : Heap) (locs : List Loc) (ls : Array Slot), f_X7_reduced_J263 x48 x49 = some r225 → ST dC dI ad cA s t47 H locs → lv_has ls 7 [(0, .ref (ad 45)), (1, .int a1), (2, .int a2), (3, .int a3), (6, .int x49)] → W p l e (RM 3 88) s m args below meth c H locs 0 0 Q (F0 m 263 ls [.int x48]) := by
                        intro H locs ls hB hS hl
                        unfold f_X7_reduced_J263 at hB
                        refine lv_iconst (v := (0 : Int32)) hx hb dX7_reduced_263 (by decide) ?_
                        refine lv_iadd hx hb dX7_reduced_264 ?_
                        refine lv_topi (fun x53 ex53 => ?_)
                        have hB := vl_at ex53 hB
                        refine lv_istore (lv' := [(5, .int x53), (0, .ref (ad 45)), (1, .int a1), (2, .int a2), (3, .int a3), (6, .int x49)]) hx hb dX7_reduced_265 hl (by decide) rfl (fun ls hl => ?_)
                        obtain ⟨x54, ex54⟩ : ∃ y : Int32, y = x49 + (1 : Int32) := ⟨_, rfl⟩
                        have hB := vl_at ex54 hB
                        refine lv_iinc (v := x54) (lv' := [(6, .int x54), (5, .int x53), (0, .ref (ad 45)), (1, .int a1), (2, .int a2), (3, .int a3)]) hx hb dX7_reduced_267 hl (k := 5) rfl (by rw [ex54]; rfl) (by decide) rfl (fun ls hl => ?_)
                        refine lv_goto (tgt := 225) hx hb dX7_reduced_270 (by decide) ?_
                        exact hI225 _ (Option.some.inj hB).symm H locs ls hS (lv_sub hl [2, 3, 4, 5, 1, 0] rfl)
                      refine lv_if_le (tgt := 263) hx hb dX7_reduced_243 (by decide) (fun c52 => ?_) (fun c52 => ?_)
                      · have hB := it_t ((lg_cmp_le _ _).mp c52) hB
                        exact hJ263  H locs ls hB hS (lv_sub hl [0, 1, 2, 3, 5] rfl)
                      · have hB := it_f (fun q => c52 ((lg_cmp_le _ _).mpr q)) hB
                        refine lv_iload hx hb dX7_reduced_246 (lv_at hl 5 rfl) ?_
                        refine lv_bipush (v := (6 : Int32)) hx hb dX7_reduced_248 (by decide) ?_
                        refine lv_idiv hx hb dX7_reduced_250 (by decide) ?_
                        refine lv_iload hx hb dX7_reduced_251 (lv_at hl 5 rfl) ?_
                        refine lv_bipush (v := (6 : Int32)) hx hb dX7_reduced_253 (by decide) ?_
                        refine lv_irem hx hb dX7_reduced_255 (by decide) ?_
                        refine lv_icmp_ge (tgt := 263) hx hb dX7_reduced_256 (by decide) (fun c55 => ?_) (fun c55 => ?_)
                        · have hB := it_t c55 hB
                          exact hJ263  H locs ls hB hS (lv_sub hl [0, 1, 2, 3, 5] rfl)
                        · have hB := it_f c55 hB
                          refine lv_iconst (v := (1 : Int32)) hx hb dX7_reduced_259 (by decide) ?_
                          refine lv_goto (tgt := 264) hx hb dX7_reduced_260 (by decide) ?_
                          refine lv_iadd hx hb dX7_reduced_264 ?_
                          refine lv_topi (fun x56 ex56 => ?_)
                          have hB := vl_at ex56 hB
                          refine lv_istore (lv' := [(5, .int x56), (0, .ref (ad 45)), (1, .int a1), (2, .int a2), (3, .int a3), (6, .int x49)]) hx hb dX7_reduced_265 hl (by decide) rfl (fun ls hl => ?_)
                          obtain ⟨x57, ex57⟩ : ∃ y : Int32, y = x49 + (1 : Int32) := ⟨_, rfl⟩
                          have hB := vl_at ex57 hB
                          refine lv_iinc (v := x57) (lv' := [(6, .int x57), (5, .int x56), (0, .ref (ad 45)), (1, .int a1), (2, .int a2), (3, .int a3)]) hx hb dX7_reduced_267 hl (k := 5) rfl (by rw [ex57]; rfl) (by decide) rfl (fun ls hl => ?_)
                          refine lv_goto (tgt := 225) hx hb dX7_reduced_270 (by decide) ?_
                          exact hI225 _ (Option.some.inj hB).symm H locs ls hS (lv_sub hl [2, 3, 4, 5, 1, 0] rfl)
                  · skip
                    intro H locs ls hS hl
                    have hS : ST dC dI ad cA s t47 H locs := hS
                    have hl : lv_has ls 7 [(0, .ref (ad 45)), (1, .int a1), (2, .int a2), (3, .int a3), (5, .int t58)] := hl
                    show W p l e (RM 3 88) s m args below meth c H locs 0 0 Q (F0 m 273 ls [])
                    refine lv_iload_n hx hb dX7_reduced_273 rfl (lv_at hl 3 rfl) ?_
                    refine lv_if_ne (tgt := 281) hx hb dX7_reduced_274 (by decide) (fun c59 => ?_) (fun c59 => ?_)
                    · have hB := it_f c59 hB
                      refine lv_iload hx hb dX7_reduced_281 (lv_at hl 4 rfl) ?_
                      refine lv_iconst (v := (1 : Int32)) hx hb dX7_reduced_283 (by decide) ?_
                      refine lv_icmp_le (tgt := 293) hx hb dX7_reduced_284 (by decide) (fun c60 => ?_) (fun c60 => ?_)
                      · have hB := it_t c60 hB
                        refine lv_iload_n hx hb dX7_reduced_293 rfl (lv_at hl 3 rfl) ?_
                        refine lv_iconst (v := (1 : Int32)) hx hb dX7_reduced_294 (by decide) ?_
                        refine lv_icmp_ne (tgt := 312) hx hb dX7_reduced_295 (by decide) (fun c61 => ?_) (fun c61 => ?_)
                        · have hB := it_f c61 hB
                          refine lv_aload_n hx hb dX7_reduced_312 rfl (lv_at hl 0 rfl) ?_
                          refine r_get (v := .ref (ad 55)) (C := RX7) (T := TX7) (N := 19) hx hb hts hin_X7 hown hK hS (by decide) e_45 rfl 18 (by decide) hk_f43 rfl rfl dX7_reduced_313 ?_
                          refine lv_bipush (v := (6 : Int32)) hx hb dX7_reduced_316 (by decide) ?_
                          refine lv_iload_n hx hb dX7_reduced_318 rfl (lv_at hl 1 rfl) ?_
                          refine lv_imul hx hb dX7_reduced_319 ?_
                          refine lv_iload_n hx hb dX7_reduced_320 rfl (lv_at hl 2 rfl) ?_
                          refine lv_iadd hx hb dX7_reduced_321 ?_
                          obtain ⟨h62, hB⟩ := gd_at hB
                          refine r_lald hx hb hK hS h62 dX7_reduced_322 ?_
                          subst hQ
                          exact r_lret hx hb hr hK hS hB hlocks dX7_reduced_323
                        · have hB := it_t c61 hB
                          refine lv_aload_n hx hb dX7_reduced_298 rfl (lv_at hl 0 rfl) ?_
                          refine r_get (v := .ref (ad 54)) (C := RX7) (T := TX7) (N := 19) hx hb hts hin_X7 hown hK hS (by decide) e_45 rfl 17 (by decide) hk_f40 rfl rfl dX7_reduced_299 ?_
                          refine lv_bipush (v := (6 : Int32)) hx hb dX7_reduced_302 (by decide) ?_
                          refine lv_iload_n hx hb dX7_reduced_304 rfl (lv_at hl 1 rfl) ?_
                          refine lv_imul hx hb dX7_reduced_305 ?_
                          refine lv_iload_n hx hb dX7_reduced_306 rfl (lv_at hl 2 rfl) ?_
                          refine lv_iadd hx hb dX7_reduced_307 ?_
                          obtain ⟨h63, hB⟩ := gd_at hB
                          refine r_lald hx hb hK hS h63 dX7_reduced_308 ?_
                          refine lv_goto (tgt := 323) hx hb dX7_reduced_309 (by decide) ?_
                          subst hQ
                          exact r_lret hx hb hr hK hS hB hlocks dX7_reduced_323
                      · have hB := it_f c60 hB
                        refine lv_ldc2 (v := (-9 : Int64)) hx hb hown hk_c192 dX7_reduced_287 ?_
                        refine lv_goto (tgt := 323) hx hb dX7_reduced_290 (by decide) ?_
                        subst hQ
                        exact r_lret hx hb hr hK hS hB hlocks dX7_reduced_323
                    · have hB := it_t c59 hB
                      refine lv_iload hx hb dX7_reduced_277 (lv_at hl 4 rfl) ?_
                      refine lv_i2l hx hb dX7_reduced_279 rfl ?_
                      subst hQ
                      exact r_lret hx hb hr hK hS hB hlocks dX7_reduced_280
          · have hB := it_t c9 hB
            refine lv_ldc2 (v := (-2 : Int64)) hx hb hown hk_c165 dX7_reduced_46 ?_
            subst hQ
            exact r_lret hx hb hr hK hS hB hlocks dX7_reduced_49
        · have hB := it_t c7 hB
          refine lv_ldc2 (v := (-1 : Int64)) hx hb hown hk_c149 dX7_reduced_33 ?_
          subst hQ
          exact r_lret hx hb hr hK hS hB hlocks dX7_reduced_36
