set_option maxHeartbeats 4000000 in
set_option maxRecDepth 100000 in
theorem c_X7_worst (l : Launch) (dC : Nat → ClassId) (dI : Nat → Nat → Nat) (ad : Nat → Nat) (cA : Nat → ClassId) (σ : Sg) (a1 : Int32) (a2 : Int32) (z : Int32 × Sg) (hB : f_X7_worst σ a1 a2 = some z) : Ki l dC dI ad cA yX7_worst wsX7_worst 4 98 [.ref (ad 45), .int a1, .int a2] σ z := by
  refine mk_i (cc := cX7_worst) (maxL := 13) (ret := (some .int)) (by decide) rfl (Nat.le_of_ble_eq_true rfl) ?_
  intro p e s m args below meth c Q H locs ls ⟨hx, hb, hr, hml, hown, hts, hlocks, hK, hN⟩ hQ hS hl
  have hown : s.vm.findClass RX7 = some m.cls := hown
  have hl : lv_has ls 13 [(0, .ref (ad 45)), (1, .int a1), (2, .int a2)] := hl
  unfold f_X7_worst at hB
  refine lv_aload_n hx hb dX7_worst_0 rfl (lv_at hl 0 rfl) ?_
  refine lv_iload_n hx hb dX7_worst_1 rfl (lv_at hl 1 rfl) ?_
  obtain ⟨t1, ht1, hB⟩ := bi_at hB
  refine r_ViP ⟨hx, hb, hml, hown, hts⟩ (c_X7_isNode l dC dI ad cA σ a1 t1 ht1) (cwV 1 hts gX7_worst_X7_isNode rfl rfl rfl (by decide +kernel) ⟨Nat.le_of_ble_eq_true rfl, Nat.le_of_ble_eq_true rfl⟩) hK hN hS (by decide) e_45 rfl rfl hl.1 rfl (Nat.le_of_ble_eq_true rfl) dX7_worst_2 ⟨Nat.le_refl _, Nat.le_refl _⟩ (fun H locs hS => ?_)
  refine lv_if_eq (tgt := 21) hx hb dX7_worst_5 (by decide) (fun c2 => ?_) (fun c2 => ?_)
  · have hB := it_t c2 hB
    refine lv_iconst (v := (-1 : Int32)) hx hb dX7_worst_21 (by decide) ?_
    subst hQ
    exact r_iret hx hb hr hK hS hB hlocks dX7_worst_22
  · have hB := it_f c2 hB
    refine lv_aload_n hx hb dX7_worst_8 rfl (lv_at hl 0 rfl) ?_
    refine lv_iload_n hx hb dX7_worst_9 rfl (lv_at hl 2 rfl) ?_
    obtain ⟨t3, ht3, hB⟩ := bi_at hB
    refine r_ViP ⟨hx, hb, hml, hown, hts⟩ (c_X7_isNode l dC dI ad cA σ a2 t3 ht3) (cwV 1 hts gX7_worst_X7_isNode rfl rfl rfl (by decide +kernel) ⟨Nat.le_of_ble_eq_true rfl, Nat.le_of_ble_eq_true rfl⟩) hK hN hS (by decide) e_45 rfl rfl hl.1 rfl (Nat.le_of_ble_eq_true rfl) dX7_worst_10 ⟨Nat.le_refl _, Nat.le_refl _⟩ (fun H locs hS => ?_)
    refine lv_if_eq (tgt := 21) hx hb dX7_worst_13 (by decide) (fun c4 => ?_) (fun c4 => ?_)
    · have hB := it_t c4 hB
      refine lv_iconst (v := (-1 : Int32)) hx hb dX7_worst_21 (by decide) ?_
      subst hQ
      exact r_iret hx hb hr hK hS hB hlocks dX7_worst_22
    · have hB := it_f c4 hB
      refine lv_iload_n hx hb dX7_worst_16 rfl (lv_at hl 1 rfl) ?_
      refine lv_iload_n hx hb dX7_worst_17 rfl (lv_at hl 2 rfl) ?_
      refine lv_icmp_ne (tgt := 23) hx hb dX7_worst_18 (by decide) (fun c5 => ?_) (fun c5 => ?_)
      · have hB := it_f c5 hB
        refine lv_aload_n hx hb dX7_worst_23 rfl (lv_at hl 0 rfl) ?_
        refine lv_bipush (v := (-9 : Int32)) hx hb dX7_worst_24 (by decide) ?_
        obtain ⟨t6, ht6, hB⟩ := bi_at hB
        refine r_Vi ⟨hx, hb, hml, hown, hts⟩ (c_X7_hangs l dC dI ad cA σ (-9 : Int32) t6 ht6) (cwV 1 hts gX7_worst_X7_hangs rfl rfl rfl (by decide +kernel) ⟨Nat.le_of_ble_eq_true rfl, Nat.le_of_ble_eq_true rfl⟩) hK hN hS (by decide) e_45 rfl rfl hl.1 rfl (Nat.le_of_ble_eq_true rfl) dX7_worst_26 ⟨Nat.le_refl _, Nat.le_refl _⟩ (fun H locs hS => ?_)
        refine lv_if_ne (tgt := 35) hx hb dX7_worst_29 (by decide) (fun c7 => ?_) (fun c7 => ?_)
        · have hB := it_f c7 hB
          refine lv_bipush (v := (-9 : Int32)) hx hb dX7_worst_35 (by decide) ?_
          refine lv_istore_n (lv' := [(3, .int (-9 : Int32)), (0, .ref (ad 45)), (1, .int a1), (2, .int a2)]) hx hb dX7_worst_37 rfl hl (by decide) rfl (fun ls hl => ?_)
          refine lv_lconst (v := (0 : Int64)) hx hb dX7_worst_38 (by decide) ?_
          refine lv_lstore (lv' := [(4, .long (0 : Int64)), (3, .int (-9 : Int32)), (0, .ref (ad 45)), (1, .int a1), (2, .int a2)]) hx hb dX7_worst_39 hl (by decide) rfl (fun ls hl => ?_)
          refine lv_lconst (v := (1 : Int64)) hx hb dX7_worst_41 (by decide) ?_
          refine lv_lstore (lv' := [(6, .long (1 : Int64)), (4, .long (0 : Int64)), (3, .int (-9 : Int32)), (0, .ref (ad 45)), (1, .int a1), (2, .int a2)]) hx hb dX7_worst_42 hl (by decide) rfl (fun ls hl => ?_)
          refine lv_iconst (v := (0 : Int32)) hx hb dX7_worst_44 (by decide) ?_
          refine lv_istore (lv' := [(8, .int (0 : Int32)), (6, .long (1 : Int64)), (4, .long (0 : Int64)), (3, .int (-9 : Int32)), (0, .ref (ad 45)), (1, .int a1), (2, .int a2)]) hx hb dX7_worst_45 hl (by decide) rfl (fun ls hl => ?_)
          obtain ⟨t24, ht24, hB⟩ := bi_at hB
          refine wl_W (body := fun a => f_X7_worst_B47 a1 a2 a.1 a.2.1 a.2.2.1 a.2.2.2.1 a.2.2.2.2) (Hd := fun a : Int32 × Int64 × Int64 × Int32 × Sg => ∀ (H : Heap) (locs : List Loc) (ls : Array Slot), ST dC dI ad cA s a.2.2.2.2 H locs → lv_has ls 13 [(0, .ref (ad 45)), (1, .int a1), (2, .int a2), (3, .int a.1), (4, .long a.2.1), (6, .long a.2.2.1), (8, .int a.2.2.2.1)] → W p l e (RM 4 98) s m args below meth c H locs 0 0 Q (F0 m 47 ls [])) (Ex := fun b : Int32 × Sg => ∀ (H : Heap) (locs : List Loc) (ls : Array Slot), ST dC dI ad cA s b.2 H locs → lv_has ls 13 [(3, .int b.1)] → W p l e (RM 4 98) s m args below meth c H locs 0 0 Q (F0 m 120 ls [])) ?_ FU _ t24 ht24 ?_ H locs ls hS (lv_sub hl [4, 5, 6, 3, 2, 1, 0] rfl)
          · intro a r47 hB hI47 hE47 H locs ls hS hl
            obtain ⟨x8, x9, x10, x11, σ12⟩ := a
            have hB : f_X7_worst_B47 a1 a2 x8 x9 x10 x11 σ12 = some r47 := hB
            unfold f_X7_worst_B47 at hB
            have hS : ST dC dI ad cA s σ12 H locs := hS
            have hl : lv_has ls 13 [(0, .ref (ad 45)), (1, .int a1), (2, .int a2), (3, .int x8), (4, .long x9), (6, .long x10), (8, .int x11)] := hl
            show W p l e (RM 4 98) s m args below meth c H locs 0 0 Q (F0 m 47 ls [])
            refine lv_iload hx hb dX7_worst_47 (lv_at hl 6 rfl) ?_
            refine lv_aload_n hx hb dX7_worst_49 rfl (lv_at hl 0 rfl) ?_
            obtain ⟨t13, ht13, hB⟩ := bi_at hB
            refine r_ViP ⟨hx, hb, hml, hown, hts⟩ (c_X7_lines l dC dI ad cA σ12 t13 ht13) (cwV 0 hts gX7_worst_X7_lines rfl rfl rfl (by decide +kernel) ⟨Nat.le_of_ble_eq_true rfl, Nat.le_of_ble_eq_true rfl⟩) hK hN hS (by decide) e_45 rfl rfl hl.1 rfl (Nat.le_of_ble_eq_true rfl) dX7_worst_50 ⟨Nat.le_refl _, Nat.le_refl _⟩ (fun H locs hS => ?_)
            refine lv_icmp_ge (tgt := 120) hx hb dX7_worst_53 (by decide) (fun c14 => ?_) (fun c14 => ?_)
            · have hB := it_t c14 hB
              exact hE47 _ (Option.some.inj hB).symm H locs ls hS (lv_sub hl [3] rfl)
            · have hB := it_f c14 hB
              refine lv_aload_n hx hb dX7_worst_56 rfl (lv_at hl 0 rfl) ?_
              refine lv_iload hx hb dX7_worst_57 (lv_at hl 6 rfl) ?_
              obtain ⟨t15, ht15, hB⟩ := bi_at hB
              refine r_Vi ⟨hx, hb, hml, hown, hts⟩ (c_X7_hangs l dC dI ad cA σ12 x11 t15 ht15) (cwV 1 hts gX7_worst_X7_hangs rfl rfl rfl (by decide +kernel) ⟨Nat.le_of_ble_eq_true rfl, Nat.le_of_ble_eq_true rfl⟩) hK hN hS (by decide) e_45 rfl rfl hl.1 rfl (Nat.le_of_ble_eq_true rfl) dX7_worst_59 ⟨Nat.le_refl _, Nat.le_refl _⟩ (fun H locs hS => ?_)
              refine lv_if_eq (tgt := 114) hx hb dX7_worst_62 (by decide) (fun c16 => ?_) (fun c16 => ?_)
              · have hB := it_t c16 hB
                obtain ⟨x17, ex17⟩ : ∃ y : Int32, y = x11 + (1 : Int32) := ⟨_, rfl⟩
                have hB := vl_at ex17 hB
                refine lv_iinc (v := x17) (lv' := [(8, .int x17), (0, .ref (ad 45)), (1, .int a1), (2, .int a2), (3, .int x8), (4, .long x9), (6, .long x10)]) hx hb dX7_worst_114 hl (k := 6) rfl (by rw [ex17]; rfl) (by decide) rfl (fun ls hl => ?_)
                refine lv_goto (tgt := 47) hx hb dX7_worst_117 (by decide) ?_
                exact hI47 _ (Option.some.inj hB).symm H locs ls hS (lv_sub hl [1, 2, 3, 4, 5, 6, 0] rfl)
              · have hB := it_f c16 hB
                refine lv_aload_n hx hb dX7_worst_65 rfl (lv_at hl 0 rfl) ?_
                refine lv_iload_n hx hb dX7_worst_66 rfl (lv_at hl 1 rfl) ?_
                refine lv_iload_n hx hb dX7_worst_67 rfl (lv_at hl 2 rfl) ?_
                refine lv_iload hx hb dX7_worst_68 (lv_at hl 6 rfl) ?_
                obtain ⟨t18, ht18, hB⟩ := bi_at hB
                refine r_Vl ⟨hx, hb, hml, hown, hts⟩ (c_X7_steps l dC dI ad cA t15.2 a1 a2 x11 t18 ht18) (cwV 3 hts gX7_worst_X7_steps rfl rfl rfl (by decide +kernel) ⟨Nat.le_of_ble_eq_true rfl, Nat.le_of_ble_eq_true rfl⟩) hK hN hS (by decide) e_45 rfl rfl hl.1 rfl (Nat.le_of_ble_eq_true rfl) dX7_worst_70 ⟨Nat.le_refl _, Nat.le_refl _⟩ (fun H locs hS => ?_)
                refine lv_lstore (lv' := [(9, .long t18.1), (0, .ref (ad 45)), (1, .int a1), (2, .int a2), (3, .int x8), (4, .long x9), (6, .long x10), (8, .int x11)]) hx hb dX7_worst_73 hl (by decide) rfl (fun ls hl => ?_)
                refine lv_aload_n hx hb dX7_worst_75 rfl (lv_at hl 1 rfl) ?_
                refine lv_iload hx hb dX7_worst_76 (lv_at hl 7 rfl) ?_
                obtain ⟨t19, ht19, hB⟩ := bi_at hB
                refine r_Vl ⟨hx, hb, hml, hown, hts⟩ (c_X7_treesBut l dC dI ad cA t18.2 x11 t19 ht19) (cwV 1 hts gX7_worst_X7_treesBut rfl rfl rfl (by decide +kernel) ⟨Nat.le_of_ble_eq_true rfl, Nat.le_of_ble_eq_true rfl⟩) hK hN hS (by decide) e_45 rfl rfl hl.1 rfl (Nat.le_of_ble_eq_true rfl) dX7_worst_78 ⟨Nat.le_refl _, Nat.le_refl _⟩ (fun H locs hS => ?_)
                refine lv_lstore (lv' := [(11, .long t19.1), (9, .long t18.1), (0, .ref (ad 45)), (1, .int a1), (2, .int a2), (3, .int x8), (4, .long x9), (6, .long x10), (8, .int x11)]) hx hb dX7_worst_81 hl (by decide) rfl (fun ls hl => ?_)
                refine lv_iload_n hx hb dX7_worst_83 rfl (lv_at hl 5 rfl) ?_
                refine lv_bipush (v := (-9 : Int32)) hx hb dX7_worst_84 (by decide) ?_
                have hJ103 : ∀ (H : Heap) (locs : List Loc) (ls : Array Slot), f_X7_worst_J103 x11 t18 t19 = some r47 → ST dC dI ad cA s t19.2 H locs → lv_has ls 13 [(0, .ref (ad 45)), (1, .int a1), (2, .int a2), (8, .int x11), (9, .long t18.1), (11, .long t19.1)] → W p l e (RM 4 98) s m args below meth c H locs 0 0 Q (F0 m 103 ls []) := by
                  intro H locs ls hB hS hl
                  unfold f_X7_worst_J103 at hB
                  refine lv_iload hx hb dX7_worst_103 (lv_at hl 3 rfl) ?_
                  refine lv_istore_n (lv' := [(3, .int x11), (0, .ref (ad 45)), (1, .int a1), (2, .int a2), (8, .int x11), (9, .long t18.1), (11, .long t19.1)]) hx hb dX7_worst_105 rfl hl (by decide) rfl (fun ls hl => ?_)
                  refine lv_lload hx hb dX7_worst_106 (lv_at hl 5 rfl) ?_
                  refine lv_lstore (lv' := [(4, .long t18.1), (3, .int x11), (0, .ref (ad 45)), (1, .int a1), (2, .int a2), (8, .int x11), (9, .long t18.1), (11, .long t19.1)]) hx hb dX7_worst_108 hl (by decide) rfl (fun ls hl => ?_)
                  refine lv_lload hx hb dX7_worst_110 (lv_at hl 7 rfl) ?_
                  refine lv_lstore (lv' := [(6, .long t19.1), (4, .long t18.1), (3, .int x11), (0, .ref (ad 45)), (1, .int a1), (2, .int a2), (8, .int x11), (9, .long t18.1), (11, .long t19.1)]) hx hb dX7_worst_112 hl (by decide) rfl (fun ls hl => ?_)
                  obtain ⟨x20, ex20⟩ : ∃ y : Int32, y = x11 + (1 : Int32) := ⟨_, rfl⟩
                  have hB := vl_at ex20 hB
                  refine lv_iinc (v := x20) (lv' := [(8, .int x20), (6, .long t19.1), (4, .long t18.1), (3, .int x11), (0, .ref (ad 45)), (1, .int a1), (2, .int a2), (9, .long t18.1), (11, .long t19.1)]) hx hb dX7_worst_114 hl (k := 6) rfl (by rw [ex20]; rfl) (by decide) rfl (fun ls hl => ?_)
                  refine lv_goto (tgt := 47) hx hb dX7_worst_117 (by decide) ?_
                  exact hI47 _ (Option.some.inj hB).symm H locs ls hS (lv_sub hl [4, 5, 6, 3, 2, 1, 0] rfl)
                refine lv_icmp_eq (tgt := 103) hx hb dX7_worst_86 (by decide) (fun c21 => ?_) (fun c21 => ?_)
                · have hB := it_t c21 hB
                  exact hJ103  H locs ls hB hS (lv_sub hl [2, 3, 4, 8, 1, 0] rfl)
                · have hB := it_f c21 hB
                  refine lv_lload hx hb dX7_worst_89 (lv_at hl 1 rfl) ?_
                  refine lv_lload hx hb dX7_worst_91 (lv_at hl 7 rfl) ?_
                  refine lv_lmul hx hb dX7_worst_93 ?_
                  refine lv_lload hx hb dX7_worst_94 (lv_at hl 6 rfl) ?_
                  refine lv_lload hx hb dX7_worst_96 (lv_at hl 0 rfl) ?_
                  refine lv_lmul hx hb dX7_worst_98 ?_
                  refine W.lcmp hx hb dX7_worst_99 ?_
                  refine lv_if_le (tgt := 114) hx hb dX7_worst_100 (by decide) (fun c22 => ?_) (fun c22 => ?_)
                  · have hB := it_t ((lg_cmp_le _ _).mp c22) hB
                    obtain ⟨x23, ex23⟩ : ∃ y : Int32, y = x11 + (1 : Int32) := ⟨_, rfl⟩
                    have hB := vl_at ex23 hB
                    refine lv_iinc (v := x23) (lv' := [(8, .int x23), (11, .long t19.1), (9, .long t18.1), (0, .ref (ad 45)), (1, .int a1), (2, .int a2), (3, .int x8), (4, .long x9), (6, .long x10)]) hx hb dX7_worst_114 hl (k := 8) rfl (by rw [ex23]; rfl) (by decide) rfl (fun ls hl => ?_)
                    refine lv_goto (tgt := 47) hx hb dX7_worst_117 (by decide) ?_
                    exact hI47 _ (Option.some.inj hB).symm H locs ls hS (lv_sub hl [3, 4, 5, 6, 7, 8, 0] rfl)
                  · have hB := it_f (fun q => c22 ((lg_cmp_le _ _).mpr q)) hB
                    exact hJ103  H locs ls hB hS (lv_sub hl [2, 3, 4, 8, 1, 0] rfl)
          · skip
            intro H locs ls hS hl
            have hS : ST dC dI ad cA s t24.2 H locs := hS
            have hl : lv_has ls 13 [(3, .int t24.1)] := hl
            show W p l e (RM 4 98) s m args below meth c H locs 0 0 Q (F0 m 120 ls [])
            refine lv_iload_n hx hb dX7_worst_120 rfl (lv_at hl 0 rfl) ?_
            subst hQ
            exact r_iret hx hb hr hK hS hB hlocks dX7_worst_121
        · have hB := it_t c7 hB
          refine lv_bipush (v := (-2 : Int32)) hx hb dX7_worst_32 (by decide) ?_
          subst hQ
          exact r_iret hx hb hr hK hS hB hlocks dX7_worst_34
      · have hB := it_t c5 hB
        refine lv_iconst (v := (-1 : Int32)) hx hb dX7_worst_21 (by decide) ?_
        subst hQ
        exact r_iret hx hb hr hK hS hB hlocks dX7_worst_22
set_option maxHeartbeats 4000000 in
set_option maxRecDepth 100000 in
theorem c_X7_power (l : Launch) (dC : Nat → ClassId) (dI : Nat → Nat → Nat) (ad : Nat → Nat) (cA : Nat → ClassId) (σ : Sg) (a1 : Int64) (a2 : Int32) (z : Int64) (hB : f_X7_power a1 a2 = some z) : Kl l dC dI ad cA yX7_power wsX7_power 0 0 [.long a1, .int a2] σ (z, σ) := by
  refine mk_l (cc := cX7_power) (maxL := 6) (ret := (some .long)) (by decide) rfl (Nat.le_of_ble_eq_true rfl) ?_
  intro p e s m args below meth c Q H locs ls ⟨hx, hb, hr, hml, hown, hts, hlocks, hK, hN⟩ hQ hS hl
  have hown : s.vm.findClass RX7 = some m.cls := hown
  have hl : lv_has ls 6 [(0, .long a1), (2, .int a2)] := hl
  unfold f_X7_power at hB
  refine lv_lconst (v := (1 : Int64)) hx hb dX7_power_0 (by decide) ?_
  refine lv_lstore_n (lv' := [(3, .long (1 : Int64)), (0, .long a1), (2, .int a2)]) hx hb dX7_power_1 rfl hl (by decide) rfl (fun ls hl => ?_)
  refine lv_iconst (v := (0 : Int32)) hx hb dX7_power_2 (by decide) ?_
  refine lv_istore (lv' := [(5, .int (0 : Int32)), (3, .long (1 : Int64)), (0, .long a1), (2, .int a2)]) hx hb dX7_power_3 hl (by decide) rfl (fun ls hl => ?_)
  obtain ⟨t6, ht6, hB⟩ := bi_at hB
  refine wl_W (body := fun a => f_X7_power_B5 a1 a2 a.1 a.2) (Hd := fun a : Int64 × Int32 => ∀ (H : Heap) (locs : List Loc) (ls : Array Slot), ST dC dI ad cA s σ H locs → lv_has ls 6 [(0, .long a1), (2, .int a2), (3, .long a.1), (5, .int a.2)] → W p l e (RM 0 0) s m args below meth c H locs 0 0 Q (F0 m 5 ls [])) (Ex := fun b : Int64 => ∀ (H : Heap) (locs : List Loc) (ls : Array Slot), ST dC dI ad cA s σ H locs → lv_has ls 6 [(3, .long b)] → W p l e (RM 0 0) s m args below meth c H locs 0 0 Q (F0 m 21 ls [])) ?_ FU _ t6 ht6 ?_ H locs ls hS (lv_sub hl [2, 3, 1, 0] rfl)
  · intro a r5 hB hI5 hE5 H locs ls hS hl
    obtain ⟨x1, x2⟩ := a
    have hB : f_X7_power_B5 a1 a2 x1 x2 = some r5 := hB
    unfold f_X7_power_B5 at hB
    have hS : ST dC dI ad cA s σ H locs := hS
    have hl : lv_has ls 6 [(0, .long a1), (2, .int a2), (3, .long x1), (5, .int x2)] := hl
    show W p l e (RM 0 0) s m args below meth c H locs 0 0 Q (F0 m 5 ls [])
    refine lv_iload hx hb dX7_power_5 (lv_at hl 3 rfl) ?_
    refine lv_iload_n hx hb dX7_power_7 rfl (lv_at hl 1 rfl) ?_
    refine lv_icmp_ge (tgt := 21) hx hb dX7_power_8 (by decide) (fun c3 => ?_) (fun c3 => ?_)
    · have hB := it_t c3 hB
      exact hE5 _ (Option.some.inj hB).symm H locs ls hS (lv_sub hl [2] rfl)
    · have hB := it_f c3 hB
      refine lv_lload_n hx hb dX7_power_11 rfl (lv_at hl 2 rfl) ?_
      refine lv_lload_n hx hb dX7_power_12 rfl (lv_at hl 0 rfl) ?_
      refine lv_lmul hx hb dX7_power_13 ?_
      refine lv_topl (fun x4 ex4 => ?_)
      have hB := vl_at ex4 hB
      refine lv_lstore_n (lv' := [(3, .long x4), (0, .long a1), (2, .int a2), (5, .int x2)]) hx hb dX7_power_14 rfl hl (by decide) rfl (fun ls hl => ?_)
      obtain ⟨x5, ex5⟩ : ∃ y : Int32, y = x2 + (1 : Int32) := ⟨_, rfl⟩
      have hB := vl_at ex5 hB
      refine lv_iinc (v := x5) (lv' := [(5, .int x5), (3, .long x4), (0, .long a1), (2, .int a2)]) hx hb dX7_power_15 hl (k := 3) rfl (by rw [ex5]; rfl) (by decide) rfl (fun ls hl => ?_)
      refine lv_goto (tgt := 5) hx hb dX7_power_18 (by decide) ?_
      exact hI5 _ (Option.some.inj hB).symm H locs ls hS (lv_sub hl [2, 3, 1, 0] rfl)
  · skip
    intro H locs ls hS hl
    have hS : ST dC dI ad cA s σ H locs := hS
    have hl : lv_has ls 6 [(3, .long t6)] := hl
    show W p l e (RM 0 0) s m args below meth c H locs 0 0 Q (F0 m 21 ls [])
    refine lv_lload_n hx hb dX7_power_21 rfl (lv_at hl 0 rfl) ?_
    subst hQ
    exact r_lret hx hb hr hK hS (pz hB) hlocks dX7_power_22
set_option maxHeartbeats 4000000 in
set_option maxRecDepth 100000 in
theorem c_X7_odds (l : Launch) (dC : Nat → ClassId) (dI : Nat → Nat → Nat) (ad : Nat → Nat) (cA : Nat → ClassId) (σ : Sg) (a1 : Int32) (a2 : Int32) (z : Int64 × Sg) (hB : f_X7_odds σ a1 a2 = some z) : Kl l dC dI ad cA yX7_odds wsX7_odds 2 53 [.ref (ad 45), .int a1, .int a2] σ z := by
  refine mk_l (cc := cX7_odds) (maxL := 6) (ret := (some .long)) (by decide) rfl (Nat.le_of_ble_eq_true rfl) ?_
  intro p e s m args below meth c Q H locs ls ⟨hx, hb, hr, hml, hown, hts, hlocks, hK, hN⟩ hQ hS hl
  have hown : s.vm.findClass RX7 = some m.cls := hown
  have hl : lv_has ls 6 [(0, .ref (ad 45)), (1, .int a1), (2, .int a2)] := hl
  have hk_c194 := hts (.constantLong RX7 194 (10)) (by decide +kernel)
  have hk_c149 := hts (.constantLong RX7 149 (-1)) (by decide +kernel)
  unfold f_X7_odds at hB
  refine lv_iload_n hx hb dX7_odds_0 rfl (lv_at hl 1 rfl) ?_
  refine lv_i2l hx hb dX7_odds_1 rfl ?_
  refine lv_lconst (v := (0 : Int64)) hx hb dX7_odds_2 (by decide) ?_
  refine lv_ldc2 (v := (10 : Int64)) hx hb hown hk_c194 dX7_odds_3 ?_
  obtain ⟨t1, ht1, hB⟩ := bi_at hB
  refine r_SiP ⟨hx, hb, hml, hown, hts⟩ (c_X7_in l dC dI ad cA σ a1.toInt64 (0 : Int64) (10 : Int64) t1 ht1) (va_cwS 3 hts gX7_odds_X7_in rfl rfl rfl (by decide +kernel) ⟨Nat.le_of_ble_eq_true rfl, Nat.le_of_ble_eq_true rfl⟩) hK hN hS rfl hl.1 rfl (Nat.le_of_ble_eq_true rfl) dX7_odds_6 ⟨Nat.le_refl _, Nat.le_refl _⟩ (fun H locs hS => ?_)
  refine lv_if_eq (tgt := 22) hx hb dX7_odds_9 (by decide) (fun c2 => ?_) (fun c2 => ?_)
  · have hB := it_t c2 hB
    refine lv_ldc2 (v := (-1 : Int64)) hx hb hown hk_c149 dX7_odds_22 ?_
    subst hQ
    exact r_lret hx hb hr hK hS hB hlocks dX7_odds_25
  · have hB := it_f c2 hB
    refine lv_iload_n hx hb dX7_odds_12 rfl (lv_at hl 2 rfl) ?_
    refine lv_i2l hx hb dX7_odds_13 rfl ?_
    refine lv_lconst (v := (0 : Int64)) hx hb dX7_odds_14 (by decide) ?_
    refine lv_lconst (v := (1 : Int64)) hx hb dX7_odds_15 (by decide) ?_
    obtain ⟨t3, ht3, hB⟩ := bi_at hB
    refine r_SiP ⟨hx, hb, hml, hown, hts⟩ (c_X7_in l dC dI ad cA σ a2.toInt64 (0 : Int64) (1 : Int64) t3 ht3) (va_cwS 3 hts gX7_odds_X7_in rfl rfl rfl (by decide +kernel) ⟨Nat.le_of_ble_eq_true rfl, Nat.le_of_ble_eq_true rfl⟩) hK hN hS rfl hl.1 rfl (Nat.le_of_ble_eq_true rfl) dX7_odds_16 ⟨Nat.le_refl _, Nat.le_refl _⟩ (fun H locs hS => ?_)
    refine lv_if_ne (tgt := 26) hx hb dX7_odds_19 (by decide) (fun c4 => ?_) (fun c4 => ?_)
    · have hB := it_f c4 hB
      refine lv_lconst (v := (0 : Int64)) hx hb dX7_odds_26 (by decide) ?_
      refine lv_lstore_n (lv' := [(3, .long (0 : Int64)), (0, .ref (ad 45)), (1, .int a1), (2, .int a2)]) hx hb dX7_odds_27 rfl hl (by decide) rfl (fun ls hl => ?_)
      refine lv_iconst (v := (0 : Int32)) hx hb dX7_odds_28 (by decide) ?_
      refine lv_istore (lv' := [(5, .int (0 : Int32)), (3, .long (0 : Int64)), (0, .ref (ad 45)), (1, .int a1), (2, .int a2)]) hx hb dX7_odds_29 hl (by decide) rfl (fun ls hl => ?_)
      obtain ⟨t22, ht22, hB⟩ := bi_at hB
      refine wl_W (body := fun a => f_X7_odds_B31 a1 a.1 a.2.1 a.2.2) (Hd := fun a : Int64 × Int32 × Sg => ∀ (H : Heap) (locs : List Loc) (ls : Array Slot), ST dC dI ad cA s a.2.2 H locs → lv_has ls 6 [(0, .ref (ad 45)), (1, .int a1), (2, .int a2), (3, .long a.1), (5, .int a.2.1)] → W p l e (RM 2 53) s m args below meth c H locs 0 0 Q (F0 m 31 ls [])) (Ex := fun b : Int64 × Sg => ∀ (H : Heap) (locs : List Loc) (ls : Array Slot), ST dC dI ad cA s b.2 H locs → lv_has ls 6 [(0, .ref (ad 45)), (2, .int a2), (3, .long b.1)] → W p l e (RM 2 53) s m args below meth c H locs 0 0 Q (F0 m 98 ls [])) ?_ FU _ t22 ht22 ?_ H locs ls hS (lv_sub hl [2, 3, 4, 1, 0] rfl)
      · intro a r31 hB hI31 hE31 H locs ls hS hl
        obtain ⟨x5, x6, σ7⟩ := a
        have hB : f_X7_odds_B31 a1 x5 x6 σ7 = some r31 := hB
        unfold f_X7_odds_B31 at hB
        have hS : ST dC dI ad cA s σ7 H locs := hS
        have hl : lv_has ls 6 [(0, .ref (ad 45)), (1, .int a1), (2, .int a2), (3, .long x5), (5, .int x6)] := hl
        show W p l e (RM 2 53) s m args below meth c H locs 0 0 Q (F0 m 31 ls [])
        refine lv_iload hx hb dX7_odds_31 (lv_at hl 4 rfl) ?_
        refine lv_iconst (v := (1 : Int32)) hx hb dX7_odds_33 (by decide) ?_
        refine lv_aload_n hx hb dX7_odds_34 rfl (lv_at hl 0 rfl) ?_
        obtain ⟨t8, ht8, hB⟩ := bi_at hB
        refine r_ViP ⟨hx, hb, hml, hown, hts⟩ (c_X7_lines l dC dI ad cA σ7 t8 ht8) (cwV 0 hts gX7_odds_X7_lines rfl rfl rfl (by decide +kernel) ⟨Nat.le_of_ble_eq_true rfl, Nat.le_of_ble_eq_true rfl⟩) hK hN hS (by decide) e_45 rfl rfl hl.1 rfl (Nat.le_of_ble_eq_true rfl) dX7_odds_35 ⟨Nat.le_refl _, Nat.le_refl _⟩ (fun H locs hS => ?_)
        refine lv_ishl hx hb dX7_odds_38 ?_
        refine lv_icmp_ge (tgt := 98) hx hb dX7_odds_39 (by decide) (fun c9 => ?_) (fun c9 => ?_)
        · have hB := it_t c9 hB
          exact hE31 _ (Option.some.inj hB).symm H locs ls hS (lv_sub hl [0, 2, 3] rfl)
        · have hB := it_f c9 hB
          refine lv_aload_n hx hb dX7_odds_42 rfl (lv_at hl 0 rfl) ?_
          refine lv_iload hx hb dX7_odds_43 (lv_at hl 4 rfl) ?_
          obtain ⟨t10, ht10, hB⟩ := bi_at hB
          refine r_Vi ⟨hx, hb, hml, hown, hts⟩ (c_X7_parts l dC dI ad cA σ7 x6 t10 ht10) (cwV 1 hts gX7_odds_X7_parts rfl rfl rfl (by decide +kernel) ⟨Nat.le_of_ble_eq_true rfl, Nat.le_of_ble_eq_true rfl⟩) hK hN hS (by decide) e_45 rfl rfl hl.1 rfl (Nat.le_of_ble_eq_true rfl) dX7_odds_45 ⟨Nat.le_refl _, Nat.le_refl _⟩ (fun H locs hS => ?_)
          refine lv_pop hx hb dX7_odds_48 rfl ?_
          refine lv_lload_n hx hb dX7_odds_49 rfl (lv_at hl 3 rfl) ?_
          refine lv_aload_n hx hb dX7_odds_50 rfl (lv_at hl 0 rfl) ?_
          obtain ⟨t11, ht11, hB⟩ := bi_at hB
          refine r_ViP ⟨hx, hb, hml, hown, hts⟩ (c_X7_isTogether l dC dI ad cA t10.2 t11 ht11) (cwV 0 hts gX7_odds_X7_isTogether rfl rfl rfl (by decide +kernel) ⟨Nat.le_of_ble_eq_true rfl, Nat.le_of_ble_eq_true rfl⟩) hK hN hS (by decide) e_45 rfl rfl hl.1 rfl (Nat.le_of_ble_eq_true rfl) dX7_odds_51 ⟨Nat.le_refl _, Nat.le_refl _⟩ (fun H locs hS => ?_)
          refine lv_if_eq (tgt := 89) hx hb dX7_odds_54 (by decide) (fun c12 => ?_) (fun c12 => ?_)
          · have hB := it_t c12 hB
            refine lv_lconst (v := (0 : Int64)) hx hb dX7_odds_89 (by decide) ?_
            refine lv_ladd hx hb dX7_odds_90 ?_
            refine lv_topl (fun x13 ex13 => ?_)
            have hB := vl_at ex13 hB
            refine lv_lstore_n (lv' := [(3, .long x13), (0, .ref (ad 45)), (1, .int a1), (2, .int a2), (5, .int x6)]) hx hb dX7_odds_91 rfl hl (by decide) rfl (fun ls hl => ?_)
            obtain ⟨x14, ex14⟩ : ∃ y : Int32, y = x6 + (1 : Int32) := ⟨_, rfl⟩
            have hB := vl_at ex14 hB
            refine lv_iinc (v := x14) (lv' := [(5, .int x14), (3, .long x13), (0, .ref (ad 45)), (1, .int a1), (2, .int a2)]) hx hb dX7_odds_92 hl (k := 4) rfl (by rw [ex14]; rfl) (by decide) rfl (fun ls hl => ?_)
            refine lv_goto (tgt := 31) hx hb dX7_odds_95 (by decide) ?_
            exact hI31 _ (Option.some.inj hB).symm H locs ls hS (lv_sub hl [2, 3, 4, 1, 0] rfl)
          · have hB := it_f c12 hB
            refine lv_bipush (v := (10 : Int32)) hx hb dX7_odds_57 (by decide) ?_
            refine lv_iload_n hx hb dX7_odds_59 rfl (lv_at hl 1 rfl) ?_
            refine lv_isub hx hb dX7_odds_60 ?_
            refine lv_i2l hx hb dX7_odds_61 rfl ?_
            refine lv_iload hx hb dX7_odds_62 (lv_at hl 4 rfl) ?_
            obtain ⟨t15, ht15, hB⟩ := bi_at hB
            refine r_SiP ⟨hx, hb, hml, hown, hts⟩ (c_X7_ones l dC dI ad cA t10.2 x6 t15 ht15) (va_cwS 1 hts gX7_odds_X7_ones rfl rfl rfl (by decide +kernel) ⟨Nat.le_of_ble_eq_true rfl, Nat.le_of_ble_eq_true rfl⟩) hK hN hS rfl hl.1 rfl (Nat.le_of_ble_eq_true rfl) dX7_odds_64 ⟨Nat.le_refl _, Nat.le_refl _⟩ (fun H locs hS => ?_)
            obtain ⟨t16, ht16, hB⟩ := bi_at hB
            refine r_SlP ⟨hx, hb, hml, hown, hts⟩ (c_X7_power l dC dI ad cA t10.2 (((10 : Int32) - a1).toInt64) t15 t16 ht16) (va_cwS 2 hts gX7_odds_X7_power rfl rfl rfl (by decide +kernel) ⟨Nat.le_of_ble_eq_true rfl, Nat.le_of_ble_eq_true rfl⟩) hK hN hS rfl hl.1 rfl (Nat.le_of_ble_eq_true rfl) dX7_odds_67 ⟨Nat.le_refl _, Nat.le_refl _⟩ (fun H locs hS => ?_)
            refine lv_iload_n hx hb dX7_odds_70 rfl (lv_at hl 1 rfl) ?_
            refine lv_i2l hx hb dX7_odds_71 rfl ?_
            refine lv_aload_n hx hb dX7_odds_72 rfl (lv_at hl 0 rfl) ?_
            obtain ⟨t17, ht17, hB⟩ := bi_at hB
            refine r_ViP ⟨hx, hb, hml, hown, hts⟩ (c_X7_lines l dC dI ad cA t10.2 t17 ht17) (cwV 0 hts gX7_odds_X7_lines rfl rfl rfl (by decide +kernel) ⟨Nat.le_of_ble_eq_true rfl, Nat.le_of_ble_eq_true rfl⟩) hK hN hS (by decide) e_45 rfl rfl hl.1 rfl (Nat.le_of_ble_eq_true rfl) dX7_odds_73 ⟨Nat.le_refl _, Nat.le_refl _⟩ (fun H locs hS => ?_)
            refine lv_iload hx hb dX7_odds_76 (lv_at hl 4 rfl) ?_
            obtain ⟨t18, ht18, hB⟩ := bi_at hB
            refine r_SiP ⟨hx, hb, hml, hown, hts⟩ (c_X7_ones l dC dI ad cA t10.2 x6 t18 ht18) (va_cwS 1 hts gX7_odds_X7_ones rfl rfl rfl (by decide +kernel) ⟨Nat.le_of_ble_eq_true rfl, Nat.le_of_ble_eq_true rfl⟩) hK hN hS rfl hl.1 rfl (Nat.le_of_ble_eq_true rfl) dX7_odds_78 ⟨Nat.le_refl _, Nat.le_refl _⟩ (fun H locs hS => ?_)
            refine lv_isub hx hb dX7_odds_81 ?_
            obtain ⟨t19, ht19, hB⟩ := bi_at hB
            refine r_SlP ⟨hx, hb, hml, hown, hts⟩ (c_X7_power l dC dI ad cA t10.2 a1.toInt64 (t17 - t18) t19 ht19) (va_cwS 2 hts gX7_odds_X7_power rfl rfl rfl (by decide +kernel) ⟨Nat.le_of_ble_eq_true rfl, Nat.le_of_ble_eq_true rfl⟩) hK hN hS rfl hl.1 rfl (Nat.le_of_ble_eq_true rfl) dX7_odds_82 ⟨Nat.le_refl _, Nat.le_refl _⟩ (fun H locs hS => ?_)
            refine lv_lmul hx hb dX7_odds_85 ?_
            refine lv_goto (tgt := 90) hx hb dX7_odds_86 (by decide) ?_
            refine lv_ladd hx hb dX7_odds_90 ?_
            refine lv_topl (fun x20 ex20 => ?_)
            have hB := vl_at ex20 hB
            refine lv_lstore_n (lv' := [(3, .long x20), (0, .ref (ad 45)), (1, .int a1), (2, .int a2), (5, .int x6)]) hx hb dX7_odds_91 rfl hl (by decide) rfl (fun ls hl => ?_)
            obtain ⟨x21, ex21⟩ : ∃ y : Int32, y = x6 + (1 : Int32) := ⟨_, rfl⟩
            have hB := vl_at ex21 hB
            refine lv_iinc (v := x21) (lv' := [(5, .int x21), (3, .long x20), (0, .ref (ad 45)), (1, .int a1), (2, .int a2)]) hx hb dX7_odds_92 hl (k := 4) rfl (by rw [ex21]; rfl) (by decide) rfl (fun ls hl => ?_)
            refine lv_goto (tgt := 31) hx hb dX7_odds_95 (by decide) ?_
            exact hI31 _ (Option.some.inj hB).symm H locs ls hS (lv_sub hl [2, 3, 4, 1, 0] rfl)
      · skip
        intro H locs ls hS hl
        have hS : ST dC dI ad cA s t22.2 H locs := hS
        have hl : lv_has ls 6 [(0, .ref (ad 45)), (2, .int a2), (3, .long t22.1)] := hl
        show W p l e (RM 2 53) s m args below meth c H locs 0 0 Q (F0 m 98 ls [])
        refine lv_lload_n hx hb dX7_odds_98 rfl (lv_at hl 2 rfl) ?_
        refine lv_ldc2 (v := (10 : Int64)) hx hb hown hk_c194 dX7_odds_99 ?_
        refine lv_aload_n hx hb dX7_odds_102 rfl (lv_at hl 0 rfl) ?_
        obtain ⟨t23, ht23, hB⟩ := bi_at hB
        refine r_ViP ⟨hx, hb, hml, hown, hts⟩ (c_X7_lines l dC dI ad cA t22.2 t23 ht23) (cwV 0 hts gX7_odds_X7_lines rfl rfl rfl (by decide +kernel) ⟨Nat.le_of_ble_eq_true rfl, Nat.le_of_ble_eq_true rfl⟩) hK hN hS (by decide) e_45 rfl rfl hl.1 rfl (Nat.le_of_ble_eq_true rfl) dX7_odds_103 ⟨Nat.le_refl _, Nat.le_refl _⟩ (fun H locs hS => ?_)
        obtain ⟨t24, ht24, hB⟩ := bi_at hB
        refine r_SlP ⟨hx, hb, hml, hown, hts⟩ (c_X7_power l dC dI ad cA t22.2 (10 : Int64) t23 t24 ht24) (va_cwS 2 hts gX7_odds_X7_power rfl rfl rfl (by decide +kernel) ⟨Nat.le_of_ble_eq_true rfl, Nat.le_of_ble_eq_true rfl⟩) hK hN hS rfl hl.1 rfl (Nat.le_of_ble_eq_true rfl) dX7_odds_106 ⟨Nat.le_refl _, Nat.le_refl _⟩ (fun H locs hS => ?_)
        refine lv_iload_n hx hb dX7_odds_109 rfl (lv_at hl 1 rfl) ?_
        obtain ⟨t25, ht25, hB⟩ := bi_at hB
        refine r_SlP ⟨hx, hb, hml, hown, hts⟩ (c_X7_least l dC dI ad cA t22.2 t22.1 t24 a2 t25 ht25) (va_cwS 3 hts gX7_odds_X7_least rfl rfl rfl (by decide +kernel) ⟨Nat.le_of_ble_eq_true rfl, Nat.le_of_ble_eq_true rfl⟩) hK hN hS rfl hl.1 rfl (Nat.le_of_ble_eq_true rfl) dX7_odds_110 ⟨Nat.le_refl _, Nat.le_refl _⟩ (fun H locs hS => ?_)
        subst hQ
        exact r_lret hx hb hr hK hS hB hlocks dX7_odds_113
    · have hB := it_t c4 hB
      refine lv_ldc2 (v := (-1 : Int64)) hx hb hown hk_c149 dX7_odds_22 ?_
      subst hQ
      exact r_lret hx hb hr hK hS hB hlocks dX7_odds_25
set_option maxHeartbeats 4000000 in
set_option maxRecDepth 100000 in
theorem c_X7_sees (l : Launch) (dC : Nat → ClassId) (dI : Nat → Nat → Nat) (ad : Nat → Nat) (cA : Nat → ClassId) (σ : Sg) (a1 : Int64) (z : Int32 × Sg) (hB : f_X7_sees σ a1 = some z) : Ki l dC dI ad cA yX7_sees wsX7_sees 0 0 [.ref (ad 45), .long a1] σ z := by
  refine mk_i (cc := cX7_sees) (maxL := 3) (ret := (some .int)) (by decide) rfl (Nat.le_of_ble_eq_true rfl) ?_
  intro p e s m args below meth c Q H locs ls ⟨hx, hb, hr, hml, hown, hts, hlocks, hK, hN⟩ hQ hS hl
  have hown : s.vm.findClass RX7 = some m.cls := hown
  have hl : lv_has ls 3 [(0, .ref (ad 45)), (1, .long a1)] := hl
  have hk_f104 := hts (.fieldLink RX7 104 "ChanceNetsModel" "seenMany" "I") (by decide +kernel)
  have hin_X7 : ∀ w ∈ u_ws RX7 TX7 19, w ∈ wsX7_sees := by decide +kernel
  have hk_f24 := hts (.fieldLink RX7 24 "ChanceNetsModel" "seen" "[J") (by decide +kernel)
  unfold f_X7_sees at hB
  refine lv_lload_n hx hb dX7_sees_0 rfl (lv_at hl 1 rfl) ?_
  refine lv_lconst (v := (0 : Int64)) hx hb dX7_sees_1 (by decide) ?_
  refine W.lcmp hx hb dX7_sees_2 ?_
  refine lv_if_ge (tgt := 8) hx hb dX7_sees_3 (by decide) (fun c1 => ?_) (fun c1 => ?_)
  · have hB := it_t ((lg_cmp_ge _ _).mp c1) hB
    refine lv_aload_n hx hb dX7_sees_8 rfl (lv_at hl 0 rfl) ?_
    refine r_get (v := .int (gI σ 20)) (C := RX7) (T := TX7) (N := 19) hx hb hts hin_X7 hown hK hS (by decide) e_45 rfl 7 (by decide) hk_f104 rfl rfl dX7_sees_9 ?_
    refine lv_bipush (v := (6 : Int32)) hx hb dX7_sees_12 (by decide) ?_
    refine lv_icmp_ne (tgt := 20) hx hb dX7_sees_14 (by decide) (fun c2 => ?_) (fun c2 => ?_)
    · have hB := it_f c2 hB
      refine lv_aload_n hx hb dX7_sees_20 rfl (lv_at hl 0 rfl) ?_
      refine r_get (v := .ref (ad 49)) (C := RX7) (T := TX7) (N := 19) hx hb hts hin_X7 hown hK hS (by decide) e_45 rfl 6 (by decide) hk_f24 rfl rfl dX7_sees_21 ?_
      refine lv_aload_n hx hb dX7_sees_24 rfl (lv_at hl 0 rfl) ?_
      refine r_get (v := .int (gI σ 20)) (C := RX7) (T := TX7) (N := 19) hx hb hts hin_X7 hown hK hS (by decide) e_45 rfl 7 (by decide) hk_f104 rfl rfl dX7_sees_25 ?_
      refine lv_lload_n hx hb dX7_sees_28 rfl (lv_at hl 1 rfl) ?_
      obtain ⟨h3, hB⟩ := gd_at hB
      refine r_last hx hb hK hS h3 dX7_sees_29 (fun H locs hS => ?_)
      obtain ⟨σ4, eσ4⟩ : ∃ t : Sg, t = pJ σ 49 (gI σ 20).toNatClampNeg a1 := ⟨_, rfl⟩
      rw [← eσ4] at hS
      have hB := vl_at eσ4 hB
      refine lv_aload_n hx hb dX7_sees_30 rfl (lv_at hl 0 rfl) ?_
      refine lv_dup hx hb dX7_sees_31 rfl ?_
      refine r_get (v := .int (gI σ4 20)) (C := RX7) (T := TX7) (N := 19) hx hb hts hin_X7 hown hK hS (by decide) e_45 rfl 7 (by decide) hk_f104 rfl rfl dX7_sees_32 ?_
      refine lv_iconst (v := (1 : Int32)) hx hb dX7_sees_35 (by decide) ?_
      refine lv_iadd hx hb dX7_sees_36 ?_
      refine lv_topi (fun x5 ex5 => ?_)
      have hB := vl_at ex5 hB
      refine r_put (σ' := pI σ4 20 x5) (v := .int x5) (C := RX7) (T := TX7) (N := 19) hx hb hts hin_X7 tyX7 tyX7_ok nmX7 hown hK hS (by decide) e_45 rfl 7 (by decide) hk_f104 rfl rfl rfl rfl (Nat.le_of_ble_eq_true rfl) (fun d hd h => eo d hd h) rfl dX7_sees_37 (fun H locs hS => ?_)
      obtain ⟨σ6, eσ6⟩ : ∃ t : Sg, t = pI σ4 20 x5 := ⟨_, rfl⟩
      rw [← eσ6] at hS
      have hB := vl_at eσ6 hB
      refine lv_aload_n hx hb dX7_sees_40 rfl (lv_at hl 0 rfl) ?_
      refine r_get (v := .int (gI σ6 20)) (C := RX7) (T := TX7) (N := 19) hx hb hts hin_X7 hown hK hS (by decide) e_45 rfl 7 (by decide) hk_f104 rfl rfl dX7_sees_41 ?_
      subst hQ
      exact r_iret hx hb hr hK hS hB hlocks dX7_sees_44
    · have hB := it_t c2 hB
      refine lv_bipush (v := (-3 : Int32)) hx hb dX7_sees_17 (by decide) ?_
      subst hQ
      exact r_iret hx hb hr hK hS hB hlocks dX7_sees_19
  · have hB := it_f (fun q => c1 ((lg_cmp_ge _ _).mpr q)) hB
    refine lv_iconst (v := (-1 : Int32)) hx hb dX7_sees_6 (by decide) ?_
    subst hQ
    exact r_iret hx hb hr hK hS hB hlocks dX7_sees_7
set_option maxHeartbeats 4000000 in
set_option maxRecDepth 100000 in
theorem c_X7_forget (l : Launch) (dC : Nat → ClassId) (dI : Nat → Nat → Nat) (ad : Nat → Nat) (cA : Nat → ClassId) (σ : Sg)  (z : Int32 × Sg) (hB : f_X7_forget σ = some z) : Ki l dC dI ad cA yX7_forget wsX7_forget 0 0 [.ref (ad 45)] σ z := by
  refine mk_i (cc := cX7_forget) (maxL := 2) (ret := (some .int)) (by decide) rfl (Nat.le_of_ble_eq_true rfl) ?_
  intro p e s m args below meth c Q H locs ls ⟨hx, hb, hr, hml, hown, hts, hlocks, hK, hN⟩ hQ hS hl
  have hown : s.vm.findClass RX7 = some m.cls := hown
  have hl : lv_has ls 2 [(0, .ref (ad 45))] := hl
  have hk_f104 := hts (.fieldLink RX7 104 "ChanceNetsModel" "seenMany" "I") (by decide +kernel)
  have hin_X7 : ∀ w ∈ u_ws RX7 TX7 19, w ∈ wsX7_forget := by decide +kernel
  unfold f_X7_forget at hB
  refine lv_aload_n hx hb dX7_forget_0 rfl (lv_at hl 0 rfl) ?_
  refine r_get (v := .int (gI σ 20)) (C := RX7) (T := TX7) (N := 19) hx hb hts hin_X7 hown hK hS (by decide) e_45 rfl 7 (by decide) hk_f104 rfl rfl dX7_forget_1 ?_
  refine lv_topi (fun x1 ex1 => ?_)
  have hB := vl_at ex1 hB
  refine lv_istore_n (lv' := [(1, .int x1), (0, .ref (ad 45))]) hx hb dX7_forget_4 rfl hl (by decide) rfl (fun ls hl => ?_)
  refine lv_aload_n hx hb dX7_forget_5 rfl (lv_at hl 1 rfl) ?_
  refine lv_iconst (v := (0 : Int32)) hx hb dX7_forget_6 (by decide) ?_
  refine r_put (σ' := pI σ 20 (0 : Int32)) (v := .int (0 : Int32)) (C := RX7) (T := TX7) (N := 19) hx hb hts hin_X7 tyX7 tyX7_ok nmX7 hown hK hS (by decide) e_45 rfl 7 (by decide) hk_f104 rfl rfl rfl rfl (Nat.le_of_ble_eq_true rfl) (fun d hd h => eo d hd h) rfl dX7_forget_7 (fun H locs hS => ?_)
  obtain ⟨σ2, eσ2⟩ : ∃ t : Sg, t = pI σ 20 (0 : Int32) := ⟨_, rfl⟩
  rw [← eσ2] at hS
  have hB := vl_at eσ2 hB
  refine lv_iload_n hx hb dX7_forget_10 rfl (lv_at hl 0 rfl) ?_
  subst hQ
  exact r_iret hx hb hr hK hS hB hlocks dX7_forget_11
set_option maxHeartbeats 4000000 in
set_option maxRecDepth 100000 in
theorem c_X7_unseen (l : Launch) (dC : Nat → ClassId) (dI : Nat → Nat → Nat) (ad : Nat → Nat) (cA : Nat → ClassId) (σ : Sg)  (z : Int32 × Sg) (hB : f_X7_unseen σ = some z) : Ki l dC dI ad cA yX7_unseen wsX7_unseen 4 93 [.ref (ad 45)] σ z := by
  refine mk_i (cc := cX7_unseen) (maxL := 5) (ret := (some .int)) (by decide) rfl (Nat.le_of_ble_eq_true rfl) ?_
  intro p e s m args below meth c Q H locs ls ⟨hx, hb, hr, hml, hown, hts, hlocks, hK, hN⟩ hQ hS hl
  have hown : s.vm.findClass RX7 = some m.cls := hown
  have hl : lv_has ls 5 [(0, .ref (ad 45))] := hl
  have hk_f104 := hts (.fieldLink RX7 104 "ChanceNetsModel" "seenMany" "I") (by decide +kernel)
  have hin_X7 : ∀ w ∈ u_ws RX7 TX7 19, w ∈ wsX7_unseen := by decide +kernel
  have hk_f24 := hts (.fieldLink RX7 24 "ChanceNetsModel" "seen" "[J") (by decide +kernel)
  unfold f_X7_unseen at hB
  refine lv_iconst (v := (0 : Int32)) hx hb dX7_unseen_0 (by decide) ?_
  refine lv_istore_n (lv' := [(1, .int (0 : Int32)), (0, .ref (ad 45))]) hx hb dX7_unseen_1 rfl hl (by decide) rfl (fun ls hl => ?_)
  refine lv_iconst (v := (0 : Int32)) hx hb dX7_unseen_2 (by decide) ?_
  refine lv_istore_n (lv' := [(2, .int (0 : Int32)), (1, .int (0 : Int32)), (0, .ref (ad 45))]) hx hb dX7_unseen_3 rfl hl (by decide) rfl (fun ls hl => ?_)
  obtain ⟨t23, ht23, hB⟩ := bi_at hB
  refine wl_W (body := fun a => f_X7_unseen_B4 a.1 a.2.1 a.2.2) (Hd := fun a : Int32 × Int32 × Sg => ∀ (H : Heap) (locs : List Loc) (ls : Array Slot), ST dC dI ad cA s a.2.2 H locs → lv_has ls 5 [(0, .ref (ad 45)), (1, .int a.1), (2, .int a.2.1)] → W p l e (RM 4 93) s m args below meth c H locs 0 0 Q (F0 m 4 ls [])) (Ex := fun b : Int32 × Sg => ∀ (H : Heap) (locs : List Loc) (ls : Array Slot), ST dC dI ad cA s b.2 H locs → lv_has ls 5 [(1, .int b.1)] → W p l e (RM 4 93) s m args below meth c H locs 0 0 Q (F0 m 78 ls [])) ?_ FU _ t23 ht23 ?_ H locs ls hS (lv_sub hl [2, 1, 0] rfl)
  · intro a r4 hB hI4 hE4 H locs ls hS hl
    obtain ⟨x1, x2, σ3⟩ := a
    have hB : f_X7_unseen_B4 x1 x2 σ3 = some r4 := hB
    unfold f_X7_unseen_B4 at hB
    have hS : ST dC dI ad cA s σ3 H locs := hS
    have hl : lv_has ls 5 [(0, .ref (ad 45)), (1, .int x1), (2, .int x2)] := hl
    show W p l e (RM 4 93) s m args below meth c H locs 0 0 Q (F0 m 4 ls [])
    refine lv_iload_n hx hb dX7_unseen_4 rfl (lv_at hl 2 rfl) ?_
    refine lv_aload_n hx hb dX7_unseen_5 rfl (lv_at hl 0 rfl) ?_
    obtain ⟨t4, ht4, hB⟩ := bi_at hB
    refine r_ViP ⟨hx, hb, hml, hown, hts⟩ (c_X7_lines l dC dI ad cA σ3 t4 ht4) (cwV 0 hts gX7_unseen_X7_lines rfl rfl rfl (by decide +kernel) ⟨Nat.le_of_ble_eq_true rfl, Nat.le_of_ble_eq_true rfl⟩) hK hN hS (by decide) e_45 rfl rfl hl.1 rfl (Nat.le_of_ble_eq_true rfl) dX7_unseen_6 ⟨Nat.le_refl _, Nat.le_refl _⟩ (fun H locs hS => ?_)
    refine lv_icmp_ge (tgt := 78) hx hb dX7_unseen_9 (by decide) (fun c5 => ?_) (fun c5 => ?_)
    · have hB := it_t c5 hB
      exact hE4 _ (Option.some.inj hB).symm H locs ls hS (lv_sub hl [1] rfl)
    · have hB := it_f c5 hB
      refine lv_iconst (v := (1 : Int32)) hx hb dX7_unseen_12 (by decide) ?_
      refine lv_istore_n (lv' := [(3, .int (1 : Int32)), (0, .ref (ad 45)), (1, .int x1), (2, .int x2)]) hx hb dX7_unseen_13 rfl hl (by decide) rfl (fun ls hl => ?_)
      refine lv_iconst (v := (0 : Int32)) hx hb dX7_unseen_14 (by decide) ?_
      refine lv_istore (lv' := [(4, .int (0 : Int32)), (3, .int (1 : Int32)), (0, .ref (ad 45)), (1, .int x1), (2, .int x2)]) hx hb dX7_unseen_15 hl (by decide) rfl (fun ls hl => ?_)
      obtain ⟨t17, ht17, hB⟩ := bi_at hB
      refine wl_W (body := fun a => f_X7_unseen_B17 x2 a.1 a.2.1 a.2.2) (Hd := fun a : Int32 × Int32 × Sg => ∀ (H : Heap) (locs : List Loc) (ls : Array Slot), ST dC dI ad cA s a.2.2 H locs → lv_has ls 5 [(0, .ref (ad 45)), (1, .int x1), (2, .int x2), (3, .int a.1), (4, .int a.2.1)] → W p l e (RM 4 93) s m args below meth c H locs 0 0 Q (F0 m 17 ls [])) (Ex := fun b : Int32 × Sg => ∀ (H : Heap) (locs : List Loc) (ls : Array Slot), ST dC dI ad cA s b.2 H locs → lv_has ls 5 [(0, .ref (ad 45)), (1, .int x1), (2, .int x2), (3, .int b.1)] → W p l e (RM 4 93) s m args below meth c H locs 0 0 Q (F0 m 58 ls [])) ?_ FU _ t17 ht17 ?_ H locs ls hS (lv_sub hl [2, 3, 4, 1, 0] rfl)
      · intro a r17 hB hI17 hE17 H locs ls hS hl
        obtain ⟨x6, x7, σ8⟩ := a
        have hB : f_X7_unseen_B17 x2 x6 x7 σ8 = some r17 := hB
        unfold f_X7_unseen_B17 at hB
        have hS : ST dC dI ad cA s σ8 H locs := hS
        have hl : lv_has ls 5 [(0, .ref (ad 45)), (1, .int x1), (2, .int x2), (3, .int x6), (4, .int x7)] := hl
        show W p l e (RM 4 93) s m args below meth c H locs 0 0 Q (F0 m 17 ls [])
        refine lv_iload hx hb dX7_unseen_17 (lv_at hl 4 rfl) ?_
        refine lv_aload_n hx hb dX7_unseen_19 rfl (lv_at hl 0 rfl) ?_
        refine r_get (v := .int (gI σ8 20)) (C := RX7) (T := TX7) (N := 19) hx hb hts hin_X7 hown hK hS (by decide) e_45 rfl 7 (by decide) hk_f104 rfl rfl dX7_unseen_20 ?_
        refine lv_icmp_ge (tgt := 58) hx hb dX7_unseen_23 (by decide) (fun c9 => ?_) (fun c9 => ?_)
        · have hB := it_t c9 hB
          exact hE17 _ (Option.some.inj hB).symm H locs ls hS (lv_sub hl [0, 1, 2, 3] rfl)
        · have hB := it_f c9 hB
          refine lv_iload_n hx hb dX7_unseen_26 rfl (lv_at hl 3 rfl) ?_
          refine lv_if_eq (tgt := 50) hx hb dX7_unseen_27 (by decide) (fun c10 => ?_) (fun c10 => ?_)
          · have hB := it_t c10 hB
            refine lv_iconst (v := (0 : Int32)) hx hb dX7_unseen_50 (by decide) ?_
            refine lv_istore_n (lv' := [(3, .int (0 : Int32)), (0, .ref (ad 45)), (1, .int x1), (2, .int x2), (4, .int x7)]) hx hb dX7_unseen_51 rfl hl (by decide) rfl (fun ls hl => ?_)
            obtain ⟨x11, ex11⟩ : ∃ y : Int32, y = x7 + (1 : Int32) := ⟨_, rfl⟩
            have hB := vl_at ex11 hB
            refine lv_iinc (v := x11) (lv' := [(4, .int x11), (3, .int (0 : Int32)), (0, .ref (ad 45)), (1, .int x1), (2, .int x2)]) hx hb dX7_unseen_52 hl (k := 4) rfl (by rw [ex11]; rfl) (by decide) rfl (fun ls hl => ?_)
            refine lv_goto (tgt := 17) hx hb dX7_unseen_55 (by decide) ?_
            exact hI17 _ (Option.some.inj hB).symm H locs ls hS (lv_sub hl [2, 3, 4, 1, 0] rfl)
          · have hB := it_f c10 hB
            refine lv_aload_n hx hb dX7_unseen_30 rfl (lv_at hl 0 rfl) ?_
            refine lv_iload_n hx hb dX7_unseen_31 rfl (lv_at hl 2 rfl) ?_
            obtain ⟨t12, ht12, hB⟩ := bi_at hB
            refine r_Vl ⟨hx, hb, hml, hown, hts⟩ (c_X7_treesBut l dC dI ad cA σ8 x2 t12 ht12) (cwV 1 hts gX7_unseen_X7_treesBut rfl rfl rfl (by decide +kernel) ⟨Nat.le_of_ble_eq_true rfl, Nat.le_of_ble_eq_true rfl⟩) hK hN hS (by decide) e_45 rfl rfl hl.1 rfl (Nat.le_of_ble_eq_true rfl) dX7_unseen_32 ⟨Nat.le_refl _, Nat.le_refl _⟩ (fun H locs hS => ?_)
            refine lv_aload_n hx hb dX7_unseen_35 rfl (lv_at hl 0 rfl) ?_
            refine r_get (v := .ref (ad 49)) (C := RX7) (T := TX7) (N := 19) hx hb hts hin_X7 hown hK hS (by decide) e_45 rfl 6 (by decide) hk_f24 rfl rfl dX7_unseen_36 ?_
            refine lv_iload hx hb dX7_unseen_39 (lv_at hl 4 rfl) ?_
            obtain ⟨h13, hB⟩ := gd_at hB
            refine r_lald hx hb hK hS h13 dX7_unseen_41 ?_
            refine W.lcmp hx hb dX7_unseen_42 ?_
            refine lv_if_ne (tgt := 50) hx hb dX7_unseen_43 (by decide) (fun c14 => ?_) (fun c14 => ?_)
            · have hB := it_f (fun q => c14 ((lg_cmp_eq _ _).mpr q)) hB
              refine lv_iconst (v := (0 : Int32)) hx hb dX7_unseen_50 (by decide) ?_
              refine lv_istore_n (lv' := [(3, .int (0 : Int32)), (0, .ref (ad 45)), (1, .int x1), (2, .int x2), (4, .int x7)]) hx hb dX7_unseen_51 rfl hl (by decide) rfl (fun ls hl => ?_)
              obtain ⟨x15, ex15⟩ : ∃ y : Int32, y = x7 + (1 : Int32) := ⟨_, rfl⟩
              have hB := vl_at ex15 hB
              refine lv_iinc (v := x15) (lv' := [(4, .int x15), (3, .int (0 : Int32)), (0, .ref (ad 45)), (1, .int x1), (2, .int x2)]) hx hb dX7_unseen_52 hl (k := 4) rfl (by rw [ex15]; rfl) (by decide) rfl (fun ls hl => ?_)
              refine lv_goto (tgt := 17) hx hb dX7_unseen_55 (by decide) ?_
              exact hI17 _ (Option.some.inj hB).symm H locs ls hS (lv_sub hl [2, 3, 4, 1, 0] rfl)
            · have hB := it_t ((lg_cmp_eq _ _).mp c14) hB
              refine lv_iconst (v := (1 : Int32)) hx hb dX7_unseen_46 (by decide) ?_
              refine lv_goto (tgt := 51) hx hb dX7_unseen_47 (by decide) ?_
              refine lv_istore_n (lv' := [(3, .int (1 : Int32)), (0, .ref (ad 45)), (1, .int x1), (2, .int x2), (4, .int x7)]) hx hb dX7_unseen_51 rfl hl (by decide) rfl (fun ls hl => ?_)
              obtain ⟨x16, ex16⟩ : ∃ y : Int32, y = x7 + (1 : Int32) := ⟨_, rfl⟩
              have hB := vl_at ex16 hB
              refine lv_iinc (v := x16) (lv' := [(4, .int x16), (3, .int (1 : Int32)), (0, .ref (ad 45)), (1, .int x1), (2, .int x2)]) hx hb dX7_unseen_52 hl (k := 4) rfl (by rw [ex16]; rfl) (by decide) rfl (fun ls hl => ?_)
              refine lv_goto (tgt := 17) hx hb dX7_unseen_55 (by decide) ?_
              exact hI17 _ (Option.some.inj hB).symm H locs ls hS (lv_sub hl [2, 3, 4, 1, 0] rfl)
      · skip
        intro H locs ls hS hl
        have hS : ST dC dI ad cA s t17.2 H locs := hS
        have hl : lv_has ls 5 [(0, .ref (ad 45)), (1, .int x1), (2, .int x2), (3, .int t17.1)] := hl
        show W p l e (RM 4 93) s m args below meth c H locs 0 0 Q (F0 m 58 ls [])
        refine lv_iload_n hx hb dX7_unseen_58 rfl (lv_at hl 1 rfl) ?_
        refine lv_iload_n hx hb dX7_unseen_59 rfl (lv_at hl 3 rfl) ?_
        refine lv_if_eq (tgt := 69) hx hb dX7_unseen_60 (by decide) (fun c18 => ?_) (fun c18 => ?_)
        · have hB := it_t c18 hB
          refine lv_iconst (v := (0 : Int32)) hx hb dX7_unseen_69 (by decide) ?_
          refine lv_ior hx hb dX7_unseen_70 ?_
          refine lv_topi (fun x19 ex19 => ?_)
          have hB := vl_at ex19 hB
          refine lv_istore_n (lv' := [(1, .int x19), (0, .ref (ad 45)), (2, .int x2), (3, .int t17.1)]) hx hb dX7_unseen_71 rfl hl (by decide) rfl (fun ls hl => ?_)
          obtain ⟨x20, ex20⟩ : ∃ y : Int32, y = x2 + (1 : Int32) := ⟨_, rfl⟩
          have hB := vl_at ex20 hB
          refine lv_iinc (v := x20) (lv' := [(2, .int x20), (1, .int x19), (0, .ref (ad 45)), (3, .int t17.1)]) hx hb dX7_unseen_72 hl (k := 2) rfl (by rw [ex20]; rfl) (by decide) rfl (fun ls hl => ?_)
          refine lv_goto (tgt := 4) hx hb dX7_unseen_75 (by decide) ?_
          exact hI4 _ (Option.some.inj hB).symm H locs ls hS (lv_sub hl [2, 1, 0] rfl)
        · have hB := it_f c18 hB
          refine lv_iconst (v := (1 : Int32)) hx hb dX7_unseen_63 (by decide) ?_
          refine lv_iload_n hx hb dX7_unseen_64 rfl (lv_at hl 2 rfl) ?_
          refine lv_ishl hx hb dX7_unseen_65 ?_
          refine lv_goto (tgt := 70) hx hb dX7_unseen_66 (by decide) ?_
          refine lv_ior hx hb dX7_unseen_70 ?_
          refine lv_topi (fun x21 ex21 => ?_)
          have hB := vl_at ex21 hB
          refine lv_istore_n (lv' := [(1, .int x21), (0, .ref (ad 45)), (2, .int x2), (3, .int t17.1)]) hx hb dX7_unseen_71 rfl hl (by decide) rfl (fun ls hl => ?_)
          obtain ⟨x22, ex22⟩ : ∃ y : Int32, y = x2 + (1 : Int32) := ⟨_, rfl⟩
          have hB := vl_at ex22 hB
          refine lv_iinc (v := x22) (lv' := [(2, .int x22), (1, .int x21), (0, .ref (ad 45)), (3, .int t17.1)]) hx hb dX7_unseen_72 hl (k := 2) rfl (by rw [ex22]; rfl) (by decide) rfl (fun ls hl => ?_)
          refine lv_goto (tgt := 4) hx hb dX7_unseen_75 (by decide) ?_
          exact hI4 _ (Option.some.inj hB).symm H locs ls hS (lv_sub hl [2, 1, 0] rfl)
  · skip
    intro H locs ls hS hl
    have hS : ST dC dI ad cA s t23.2 H locs := hS
    have hl : lv_has ls 5 [(1, .int t23.1)] := hl
    show W p l e (RM 4 93) s m args below meth c H locs 0 0 Q (F0 m 78 ls [])
    refine lv_iload_n hx hb dX7_unseen_78 rfl (lv_at hl 0 rfl) ?_
    subst hQ
    exact r_iret hx hb hr hK hS hB hlocks dX7_unseen_79
set_option maxHeartbeats 4000000 in
set_option maxRecDepth 100000 in
theorem c_X7_keep (l : Launch) (dC : Nat → ClassId) (dI : Nat → Nat → Nat) (ad : Nat → Nat) (cA : Nat → ClassId) (σ : Sg) (a1 : Int32) (z : Int32 × Sg) (hB : f_X7_keep σ a1 = some z) : Ki l dC dI ad cA yX7_keep wsX7_keep 1 25 [.ref (ad 45), .int a1] σ z := by
  refine mk_i (cc := cX7_keep) (maxL := 2) (ret := (some .int)) (by decide) rfl (Nat.le_of_ble_eq_true rfl) ?_
  intro p e s m args below meth c Q H locs ls ⟨hx, hb, hr, hml, hown, hts, hlocks, hK, hN⟩ hQ hS hl
  have hown : s.vm.findClass RX7 = some m.cls := hown
  have hl : lv_has ls 2 [(0, .ref (ad 45)), (1, .int a1)] := hl
  have hk_f17 := hts (.fieldLink RX7 17 "ChanceNetsModel" "isKept" "[Z") (by decide +kernel)
  have hin_X7 : ∀ w ∈ u_ws RX7 TX7 19, w ∈ wsX7_keep := by decide +kernel
  have hk_f13 := hts (.fieldLink RX7 13 "ChanceNetsModel" "nodes" "I") (by decide +kernel)
  unfold f_X7_keep at hB
  refine lv_iload_n hx hb dX7_keep_0 rfl (lv_at hl 1 rfl) ?_
  refine lv_i2l hx hb dX7_keep_1 rfl ?_
  refine lv_lconst (v := (0 : Int64)) hx hb dX7_keep_2 (by decide) ?_
  refine lv_lconst (v := (1 : Int64)) hx hb dX7_keep_3 (by decide) ?_
  obtain ⟨t1, ht1, hB⟩ := bi_at hB
  refine r_SiP ⟨hx, hb, hml, hown, hts⟩ (c_X7_in l dC dI ad cA σ a1.toInt64 (0 : Int64) (1 : Int64) t1 ht1) (va_cwS 3 hts gX7_keep_X7_in rfl rfl rfl (by decide +kernel) ⟨Nat.le_of_ble_eq_true rfl, Nat.le_of_ble_eq_true rfl⟩) hK hN hS rfl hl.1 rfl (Nat.le_of_ble_eq_true rfl) dX7_keep_4 ⟨Nat.le_refl _, Nat.le_refl _⟩ (fun H locs hS => ?_)
  refine lv_if_ne (tgt := 12) hx hb dX7_keep_7 (by decide) (fun c2 => ?_) (fun c2 => ?_)
  · have hB := it_f c2 hB
    refine lv_aload_n hx hb dX7_keep_12 rfl (lv_at hl 0 rfl) ?_
    refine lv_iconst (v := (0 : Int32)) hx hb dX7_keep_13 (by decide) ?_
    refine lv_sipush (v := (403 : Int32)) hx hb dX7_keep_14 (by decide) ?_
    refine lv_bipush (v := (31 : Int32)) hx hb dX7_keep_17 (by decide) ?_
    refine lv_iload_n hx hb dX7_keep_19 rfl (lv_at hl 1 rfl) ?_
    refine lv_imul hx hb dX7_keep_20 ?_
    refine lv_iadd hx hb dX7_keep_21 ?_
    obtain ⟨t3, ht3, hB⟩ := bi_at hB
    refine r_Vv ⟨hx, hb, hml, hown, hts⟩ (c_X7_copyRow l dC dI ad cA σ (0 : Int32) ((403 : Int32) + ((31 : Int32) * a1)) t3 ht3) (cwV 2 hts gX7_keep_X7_copyRow rfl rfl rfl (by decide +kernel) ⟨Nat.le_of_ble_eq_true rfl, Nat.le_of_ble_eq_true rfl⟩) hK hN hS (by decide) e_45 rfl rfl hl.1 rfl (Nat.le_of_ble_eq_true rfl) dX7_keep_22 ⟨Nat.le_refl _, Nat.le_refl _⟩ (fun H locs hS => ?_)
    refine lv_aload_n hx hb dX7_keep_25 rfl (lv_at hl 0 rfl) ?_
    refine r_get (v := .ref (ad 47)) (C := RX7) (T := TX7) (N := 19) hx hb hts hin_X7 hown hK hS (by decide) e_45 rfl 3 (by decide) hk_f17 rfl rfl dX7_keep_26 ?_
    refine lv_iload_n hx hb dX7_keep_29 rfl (lv_at hl 1 rfl) ?_
    refine lv_iconst (v := (1 : Int32)) hx hb dX7_keep_30 (by decide) ?_
    obtain ⟨h4, hB⟩ := gd_at hB
    refine r_zast hx hb hK hS rfl h4 dX7_keep_31 (fun H locs hS => ?_)
    obtain ⟨σ5, eσ5⟩ : ∃ t : Sg, t = pA t3 47 a1.toNatClampNeg (1 : Int32) := ⟨_, rfl⟩
    rw [← eσ5] at hS
    have hB := vl_at eσ5 hB
    refine lv_aload_n hx hb dX7_keep_32 rfl (lv_at hl 0 rfl) ?_
    refine r_get (v := .int (gI σ5 17)) (C := RX7) (T := TX7) (N := 19) hx hb hts hin_X7 hown hK hS (by decide) e_45 rfl 1 (by decide) hk_f13 rfl rfl dX7_keep_33 ?_
    subst hQ
    exact r_iret hx hb hr hK hS hB hlocks dX7_keep_36
  · have hB := it_t c2 hB
    refine lv_iconst (v := (-1 : Int32)) hx hb dX7_keep_10 (by decide) ?_
    subst hQ
    exact r_iret hx hb hr hK hS hB hlocks dX7_keep_11
set_option maxHeartbeats 4000000 in
set_option maxRecDepth 100000 in
theorem c_X7_back (l : Launch) (dC : Nat → ClassId) (dI : Nat → Nat → Nat) (ad : Nat → Nat) (cA : Nat → ClassId) (σ : Sg) (a1 : Int32) (z : Int32 × Sg) (hB : f_X7_back σ a1 = some z) : Ki l dC dI ad cA yX7_back wsX7_back 1 25 [.ref (ad 45), .int a1] σ z := by
  refine mk_i (cc := cX7_back) (maxL := 2) (ret := (some .int)) (by decide) rfl (Nat.le_of_ble_eq_true rfl) ?_
  intro p e s m args below meth c Q H locs ls ⟨hx, hb, hr, hml, hown, hts, hlocks, hK, hN⟩ hQ hS hl
  have hown : s.vm.findClass RX7 = some m.cls := hown
  have hl : lv_has ls 2 [(0, .ref (ad 45)), (1, .int a1)] := hl
  have hk_f17 := hts (.fieldLink RX7 17 "ChanceNetsModel" "isKept" "[Z") (by decide +kernel)
  have hin_X7 : ∀ w ∈ u_ws RX7 TX7 19, w ∈ wsX7_back := by decide +kernel
  have hk_f101 := hts (.fieldLink RX7 101 "ChanceNetsModel" "undos" "I") (by decide +kernel)
  have hk_f13 := hts (.fieldLink RX7 13 "ChanceNetsModel" "nodes" "I") (by decide +kernel)
  unfold f_X7_back at hB
  refine lv_iload_n hx hb dX7_back_0 rfl (lv_at hl 1 rfl) ?_
  refine lv_i2l hx hb dX7_back_1 rfl ?_
  refine lv_lconst (v := (0 : Int64)) hx hb dX7_back_2 (by decide) ?_
  refine lv_lconst (v := (1 : Int64)) hx hb dX7_back_3 (by decide) ?_
  obtain ⟨t1, ht1, hB⟩ := bi_at hB
  refine r_SiP ⟨hx, hb, hml, hown, hts⟩ (c_X7_in l dC dI ad cA σ a1.toInt64 (0 : Int64) (1 : Int64) t1 ht1) (va_cwS 3 hts gX7_back_X7_in rfl rfl rfl (by decide +kernel) ⟨Nat.le_of_ble_eq_true rfl, Nat.le_of_ble_eq_true rfl⟩) hK hN hS rfl hl.1 rfl (Nat.le_of_ble_eq_true rfl) dX7_back_4 ⟨Nat.le_refl _, Nat.le_refl _⟩ (fun H locs hS => ?_)
  refine lv_if_ne (tgt := 12) hx hb dX7_back_7 (by decide) (fun c2 => ?_) (fun c2 => ?_)
  · have hB := it_f c2 hB
    refine lv_aload_n hx hb dX7_back_12 rfl (lv_at hl 0 rfl) ?_
    refine r_get (v := .ref (ad 47)) (C := RX7) (T := TX7) (N := 19) hx hb hts hin_X7 hown hK hS (by decide) e_45 rfl 3 (by decide) hk_f17 rfl rfl dX7_back_13 ?_
    refine lv_iload_n hx hb dX7_back_16 rfl (lv_at hl 1 rfl) ?_
    obtain ⟨h3, hB⟩ := gd_at hB
    refine r_zald hx hb hK hS h3 dX7_back_17 ?_
    refine lv_if_ne (tgt := 24) hx hb dX7_back_18 (by decide) (fun c4 => ?_) (fun c4 => ?_)
    · have hB := it_f c4 hB
      refine lv_aload_n hx hb dX7_back_24 rfl (lv_at hl 0 rfl) ?_
      refine lv_sipush (v := (403 : Int32)) hx hb dX7_back_25 (by decide) ?_
      refine lv_bipush (v := (31 : Int32)) hx hb dX7_back_28 (by decide) ?_
      refine lv_iload_n hx hb dX7_back_30 rfl (lv_at hl 1 rfl) ?_
      refine lv_imul hx hb dX7_back_31 ?_
      refine lv_iadd hx hb dX7_back_32 ?_
      refine lv_iconst (v := (0 : Int32)) hx hb dX7_back_33 (by decide) ?_
      obtain ⟨t5, ht5, hB⟩ := bi_at hB
      refine r_Vv ⟨hx, hb, hml, hown, hts⟩ (c_X7_copyRow l dC dI ad cA σ ((403 : Int32) + ((31 : Int32) * a1)) (0 : Int32) t5 ht5) (cwV 2 hts gX7_back_X7_copyRow rfl rfl rfl (by decide +kernel) ⟨Nat.le_of_ble_eq_true rfl, Nat.le_of_ble_eq_true rfl⟩) hK hN hS (by decide) e_45 rfl rfl hl.1 rfl (Nat.le_of_ble_eq_true rfl) dX7_back_34 ⟨Nat.le_refl _, Nat.le_refl _⟩ (fun H locs hS => ?_)
      refine lv_aload_n hx hb dX7_back_37 rfl (lv_at hl 0 rfl) ?_
      refine lv_iconst (v := (0 : Int32)) hx hb dX7_back_38 (by decide) ?_
      refine r_put (σ' := pI t5 18 (0 : Int32)) (v := .int (0 : Int32)) (C := RX7) (T := TX7) (N := 19) hx hb hts hin_X7 tyX7 tyX7_ok nmX7 hown hK hS (by decide) e_45 rfl 2 (by decide) hk_f101 rfl rfl rfl rfl (Nat.le_of_ble_eq_true rfl) (fun d hd h => eo d hd h) rfl dX7_back_39 (fun H locs hS => ?_)
      obtain ⟨σ6, eσ6⟩ : ∃ t : Sg, t = pI t5 18 (0 : Int32) := ⟨_, rfl⟩
      rw [← eσ6] at hS
      have hB := vl_at eσ6 hB
      refine lv_aload_n hx hb dX7_back_42 rfl (lv_at hl 0 rfl) ?_
      refine r_get (v := .int (gI σ6 17)) (C := RX7) (T := TX7) (N := 19) hx hb hts hin_X7 hown hK hS (by decide) e_45 rfl 1 (by decide) hk_f13 rfl rfl dX7_back_43 ?_
      subst hQ
      exact r_iret hx hb hr hK hS hB hlocks dX7_back_46
    · have hB := it_t c4 hB
      refine lv_bipush (v := (-2 : Int32)) hx hb dX7_back_21 (by decide) ?_
      subst hQ
      exact r_iret hx hb hr hK hS hB hlocks dX7_back_23
  · have hB := it_t c2 hB
    refine lv_iconst (v := (-1 : Int32)) hx hb dX7_back_10 (by decide) ?_
    subst hQ
    exact r_iret hx hb hr hK hS hB hlocks dX7_back_11
set_option maxHeartbeats 4000000 in
set_option maxRecDepth 100000 in
theorem c_X7_count (l : Launch) (dC : Nat → ClassId) (dI : Nat → Nat → Nat) (ad : Nat → Nat) (cA : Nat → ClassId) (σ : Sg) (a1 : Int32) (z : Int32 × Sg) (hB : f_X7_count σ a1 = some z) : Ki l dC dI ad cA yX7_count wsX7_count 3 68 [.ref (ad 45), .int a1] σ z := by
  refine mk_i (cc := cX7_count) (maxL := 2) (ret := (some .int)) (by decide) rfl (Nat.le_of_ble_eq_true rfl) ?_
  intro p e s m args below meth c Q H locs ls ⟨hx, hb, hr, hml, hown, hts, hlocks, hK, hN⟩ hQ hS hl
  have hown : s.vm.findClass RX7 = some m.cls := hown
  have hl : lv_has ls 2 [(0, .ref (ad 45)), (1, .int a1)] := hl
  have hk_f13 := hts (.fieldLink RX7 13 "ChanceNetsModel" "nodes" "I") (by decide +kernel)
  have hin_X7 : ∀ w ∈ u_ws RX7 TX7 19, w ∈ wsX7_count := by decide +kernel
  have hk_f104 := hts (.fieldLink RX7 104 "ChanceNetsModel" "seenMany" "I") (by decide +kernel)
  have hk_f52 := hts (.fieldLink RX7 52 "ChanceNetsModel" "length" "I") (by decide +kernel)
  have hk_f101 := hts (.fieldLink RX7 101 "ChanceNetsModel" "undos" "I") (by decide +kernel)
  unfold f_X7_count at hB
  refine lv_iload_n hx hb dX7_count_0 rfl (lv_at hl 1 rfl) ?_
  by_cases q0 : a1 = (0 : Int32)
  · have hB := it_t q0 hB
    refine lv_tableIn (tgt := 44) hx hb dX7_count_1 (by rw [q0]; decide) (by rw [q0]; decide) (by rw [q0]; rfl) (by decide) ?_
    refine lv_aload_n hx hb dX7_count_44 rfl (lv_at hl 0 rfl) ?_
    refine r_get (v := .int (gI σ 17)) (C := RX7) (T := TX7) (N := 19) hx hb hts hin_X7 hown hK hS (by decide) e_45 rfl 1 (by decide) hk_f13 rfl rfl dX7_count_45 ?_
    subst hQ
    exact r_iret hx hb hr hK hS hB hlocks dX7_count_48
  have hB := it_f q0 hB
  by_cases q1 : a1 = (1 : Int32)
  · have hB := it_t q1 hB
    refine lv_tableIn (tgt := 49) hx hb dX7_count_1 (by rw [q1]; decide) (by rw [q1]; decide) (by rw [q1]; rfl) (by decide) ?_
    refine lv_aload_n hx hb dX7_count_49 rfl (lv_at hl 0 rfl) ?_
    obtain ⟨t1, ht1, hB⟩ := bi_at hB
    refine r_ViP ⟨hx, hb, hml, hown, hts⟩ (c_X7_lines l dC dI ad cA σ t1 ht1) (cwV 0 hts gX7_count_X7_lines rfl rfl rfl (by decide +kernel) ⟨Nat.le_of_ble_eq_true rfl, Nat.le_of_ble_eq_true rfl⟩) hK hN hS (by decide) e_45 rfl rfl hl.1 rfl (Nat.le_of_ble_eq_true rfl) dX7_count_50 ⟨Nat.le_refl _, Nat.le_refl _⟩ (fun H locs hS => ?_)
    subst hQ
    exact r_iret hx hb hr hK hS hB hlocks dX7_count_53
  have hB := it_f q1 hB
  by_cases q2 : a1 = (2 : Int32)
  · have hB := it_t q2 hB
    refine lv_tableIn (tgt := 54) hx hb dX7_count_1 (by rw [q2]; decide) (by rw [q2]; decide) (by rw [q2]; rfl) (by decide) ?_
    refine lv_aload_n hx hb dX7_count_54 rfl (lv_at hl 0 rfl) ?_
    obtain ⟨t2, ht2, hB⟩ := bi_at hB
    refine r_ViP ⟨hx, hb, hml, hown, hts⟩ (c_X7_whole l dC dI ad cA σ t2 ht2) (cwV 0 hts gX7_count_X7_whole rfl rfl rfl (by decide +kernel) ⟨Nat.le_of_ble_eq_true rfl, Nat.le_of_ble_eq_true rfl⟩) hK hN hS (by decide) e_45 rfl rfl hl.1 rfl (Nat.le_of_ble_eq_true rfl) dX7_count_55 ⟨Nat.le_refl _, Nat.le_refl _⟩ (fun H locs hS => ?_)
    subst hQ
    exact r_iret hx hb hr hK hS hB hlocks dX7_count_58
  have hB := it_f q2 hB
  by_cases q3 : a1 = (3 : Int32)
  · have hB := it_t q3 hB
    refine lv_tableIn (tgt := 59) hx hb dX7_count_1 (by rw [q3]; decide) (by rw [q3]; decide) (by rw [q3]; rfl) (by decide) ?_
    refine lv_aload_n hx hb dX7_count_59 rfl (lv_at hl 0 rfl) ?_
    refine lv_bipush (v := (-9 : Int32)) hx hb dX7_count_60 (by decide) ?_
    obtain ⟨t3, ht3, hB⟩ := bi_at hB
    refine r_Vi ⟨hx, hb, hml, hown, hts⟩ (c_X7_hangs l dC dI ad cA σ (-9 : Int32) t3 ht3) (cwV 1 hts gX7_count_X7_hangs rfl rfl rfl (by decide +kernel) ⟨Nat.le_of_ble_eq_true rfl, Nat.le_of_ble_eq_true rfl⟩) hK hN hS (by decide) e_45 rfl rfl hl.1 rfl (Nat.le_of_ble_eq_true rfl) dX7_count_62 ⟨Nat.le_refl _, Nat.le_refl _⟩ (fun H locs hS => ?_)
    refine lv_if_eq (tgt := 72) hx hb dX7_count_65 (by decide) (fun c4 => ?_) (fun c4 => ?_)
    · have hB := it_t c4 hB
      refine lv_iconst (v := (0 : Int32)) hx hb dX7_count_72 (by decide) ?_
      subst hQ
      exact r_iret hx hb hr hK hS hB hlocks dX7_count_73
    · have hB := it_f c4 hB
      refine lv_iconst (v := (1 : Int32)) hx hb dX7_count_68 (by decide) ?_
      refine lv_goto (tgt := 73) hx hb dX7_count_69 (by decide) ?_
      subst hQ
      exact r_iret hx hb hr hK hS hB hlocks dX7_count_73
  have hB := it_f q3 hB
  by_cases q4 : a1 = (4 : Int32)
  · have hB := it_t q4 hB
    refine lv_tableIn (tgt := 74) hx hb dX7_count_1 (by rw [q4]; decide) (by rw [q4]; decide) (by rw [q4]; rfl) (by decide) ?_
    refine lv_aload_n hx hb dX7_count_74 rfl (lv_at hl 0 rfl) ?_
    refine r_get (v := .int (gI σ 20)) (C := RX7) (T := TX7) (N := 19) hx hb hts hin_X7 hown hK hS (by decide) e_45 rfl 7 (by decide) hk_f104 rfl rfl dX7_count_75 ?_
    subst hQ
    exact r_iret hx hb hr hK hS hB hlocks dX7_count_78
  have hB := it_f q4 hB
  by_cases q5 : a1 = (5 : Int32)
  · have hB := it_t q5 hB
    refine lv_tableIn (tgt := 79) hx hb dX7_count_1 (by rw [q5]; decide) (by rw [q5]; decide) (by rw [q5]; rfl) (by decide) ?_
    refine lv_aload_n hx hb dX7_count_79 rfl (lv_at hl 0 rfl) ?_
    refine r_get (v := .int (gI σ 19)) (C := RX7) (T := TX7) (N := 19) hx hb hts hin_X7 hown hK hS (by decide) e_45 rfl 5 (by decide) hk_f52 rfl rfl dX7_count_80 ?_
    subst hQ
    exact r_iret hx hb hr hK hS hB hlocks dX7_count_83
  have hB := it_f q5 hB
  by_cases q6 : a1 = (6 : Int32)
  · have hB := it_t q6 hB
    refine lv_tableIn (tgt := 84) hx hb dX7_count_1 (by rw [q6]; decide) (by rw [q6]; decide) (by rw [q6]; rfl) (by decide) ?_
    refine lv_aload_n hx hb dX7_count_84 rfl (lv_at hl 0 rfl) ?_
    refine r_get (v := .int (gI σ 18)) (C := RX7) (T := TX7) (N := 19) hx hb hts hin_X7 hown hK hS (by decide) e_45 rfl 2 (by decide) hk_f101 rfl rfl dX7_count_85 ?_
    subst hQ
    exact r_iret hx hb hr hK hS hB hlocks dX7_count_88
  have hB := it_f q6 hB
  refine lv_tableOut (tgt := 89) hx hb dX7_count_1 (sw_out (n := 6) (fun j hj => by rcases (show j = 0 ∨ j = 1 ∨ j = 2 ∨ j = 3 ∨ j = 4 ∨ j = 5 ∨ j = 6 by omega) with h9 | h9 | h9 | h9 | h9 | h9 | h9 <;> subst_vars <;> assumption)) (by decide) ?_
  refine lv_iconst (v := (-1 : Int32)) hx hb dX7_count_89 (by decide) ?_
  subst hQ
  exact r_iret hx hb hr hK hS hB hlocks dX7_count_90
