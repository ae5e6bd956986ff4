/-! constructors, 3: the leaves (printed by gen3.py) -/
set_option maxHeartbeats 4000000 in
set_option maxRecDepth 100000 in
theorem k_X4_init (l : Launch) (dC : Nat → ClassId) (dI : Nat → Nat → Nat) (cA : Nat → ClassId) (h0 : Nat) : Kc l dC dI cA yX4_init wsX4_init (RK 1 12 1 80) h0 (.inr (4, [.null, .int 0, .int 0, .int 0])) (fun u : Nat => [(h0, .inr (4, [.ref u, .int 0, .int 0, .int 0])), (u, .inl (cA 0, 80, .inl (fun _ => 0)))]) 1 80 := by
  refine mk_c (cc := cX4_init) (maxL := 1) (by decide) rfl rfl (Nat.le_of_ble_eq_true rfl) ?_
  intro p e s m args below meth c A ls hC hA hS hl
  obtain ⟨hx, hb, hr, hml, hown, hts, hlocks, hK, hO, hnm⟩ := hC
  have hl : lv_has ls 1 [(0, .ref h0)] := hl
  have hin_X4 : ∀ w ∈ u_ws RX4 TX4 4, w ∈ wsX4_init := by decide +kernel
  refine lv_aload_n hx hb dX4_init_0 rfl (lv_at hl 0 rfl) ?_
  refine W.objInit hx hb hown (hts (.methodLink RX4 3 objectInit) (by decide +kernel)) (hts (.instanceMethod objectInit) (by decide +kernel)) (hts (.code objectInit ⟨#[0xb1]⟩ 1 none) (by decide +kernel)) rfl (by rw [hml]; exact hl.1) rfl dX4_init_1 (Nat.le_of_ble_eq_true rfl) (Nat.le_of_ble_eq_true rfl) ?_
  refine W.eq (g2 := F0 m 4 ls []) rfl ?_
  refine lv_aload_n hx hb dX4_init_4 rfl (lv_at hl 0 rfl) ?_
  refine lv_bipush (v := (80 : Int32)) hx hb dX4_init_5 (by decide) ?_
  refine k_newa (atype := .int) (ty := .int) (a0 := (80, .inl (fun _ => 0))) hx hb (hts (.arrayClass .int) (by decide +kernel)) rfl hK 0 rfl hS hA (fun _ => rfl) (by decide) rfl (Nat.le_of_ble_eq_true rfl) (Nat.le_of_ble_eq_true rfl) (Nat.le_of_ble_eq_true rfl) dX4_init_7 (fun q7 H hS => ?_)
  have hS : KS dC dI A s [(h0, .inr (4, [.null, .int 0, .int 0, .int 0])), (q7, .inl (cA 0, 80, .inl (fun _ => 0)))] H [] := hS
  refine k_putF (v := .ref q7) (C := RX4) (T := TX4) (N := 4) (ci := 4) hx hb hts hin_X4 tyX4 tyX4_ok nmX4 hown hK hS 0 rfl rfl 0 (by decide) (hts (.fieldLink RX4 9 "ChanceNets$Text" "letters" "[I") (by decide +kernel)) rfl rfl hnm rfl rfl rfl (Nat.le_of_ble_eq_true rfl) dX4_init_9 (fun H locs hS => ?_)
  have hS : KS dC dI A s [(h0, .inr (4, [.ref q7, .int 0, .int 0, .int 0])), (q7, .inl (cA 0, 80, .inl (fun _ => 0)))] H locs := hS
  exact k_ret (S := Nat) (B := fun u => [(h0, .inr (4, [.ref u, .int 0, .int 0, .int 0])), (u, .inl (cA 0, 80, .inl (fun _ => 0)))]) (q7) hx hb hr hK hS hlocks dX4_init_12 (Nat.le_of_ble_eq_true rfl) (Nat.le_of_ble_eq_true rfl)
set_option maxHeartbeats 4000000 in
set_option maxRecDepth 100000 in
theorem k_X1_init (l : Launch) (dC : Nat → ClassId) (dI : Nat → Nat → Nat) (cA : Nat → ClassId) (h0 : Nat) : Kc l dC dI cA yX1_init wsX1_init (RK 1 12 3 56) h0 (.inr (1, [.int 0, .int 0, .null, .null, .null])) (fun u : Nat × Nat × Nat => [(h0, .inr (1, [.int 2, .int 0, .ref u.1, .ref u.2.1, .ref u.2.2])), (u.1, .inl (cA 0, 36, .inl (fun _ => 0))), (u.2.1, .inl (cA 0, 10, .inl (fun _ => 0))), (u.2.2, .inl (cA 0, 10, .inl (fun _ => 0)))]) 3 56 := by
  refine mk_c (cc := cX1_init) (maxL := 1) (by decide) rfl rfl (Nat.le_of_ble_eq_true rfl) ?_
  intro p e s m args below meth c A ls hC hA hS hl
  obtain ⟨hx, hb, hr, hml, hown, hts, hlocks, hK, hO, hnm⟩ := hC
  have hl : lv_has ls 1 [(0, .ref h0)] := hl
  have hin_X1 : ∀ w ∈ u_ws RX1 TX1 5, w ∈ wsX1_init := by decide +kernel
  refine lv_aload_n hx hb dX1_init_0 rfl (lv_at hl 0 rfl) ?_
  refine W.objInit hx hb hown (hts (.methodLink RX1 3 objectInit) (by decide +kernel)) (hts (.instanceMethod objectInit) (by decide +kernel)) (hts (.code objectInit ⟨#[0xb1]⟩ 1 none) (by decide +kernel)) rfl (by rw [hml]; exact hl.1) rfl dX1_init_1 (Nat.le_of_ble_eq_true rfl) (Nat.le_of_ble_eq_true rfl) ?_
  refine W.eq (g2 := F0 m 4 ls []) rfl ?_
  refine lv_aload_n hx hb dX1_init_4 rfl (lv_at hl 0 rfl) ?_
  refine lv_iconst (v := (2 : Int32)) hx hb dX1_init_5 (by decide) ?_
  refine k_put (v := .int 2) (C := RX1) (T := TX1) (N := 5) (ci := 1) hx hb hts hin_X1 tyX1 tyX1_ok nmX1 hown hK hS 0 rfl rfl 0 (by decide) (hts (.fieldLink RX1 9 "ChanceNets$Net" "nodes" "I") (by decide +kernel)) rfl rfl rfl rfl (Nat.le_of_ble_eq_true rfl) dX1_init_6 (fun H locs hS => ?_)
  have hS : KS dC dI A s [(h0, .inr (1, [.int 2, .int 0, .null, .null, .null]))] H locs := hS
  refine lv_aload_n hx hb dX1_init_9 rfl (lv_at hl 0 rfl) ?_
  refine lv_bipush (v := (36 : Int32)) hx hb dX1_init_10 (by decide) ?_
  refine k_newa (atype := .int) (ty := .int) (a0 := (36, .inl (fun _ => 0))) hx hb (hts (.arrayClass .int) (by decide +kernel)) rfl hK 0 rfl hS hA (fun _ => rfl) (by decide) rfl (Nat.le_of_ble_eq_true rfl) (Nat.le_of_ble_eq_true rfl) (Nat.le_of_ble_eq_true rfl) dX1_init_12 (fun q12 H hS => ?_)
  have hS : KS dC dI A s [(h0, .inr (1, [.int 2, .int 0, .null, .null, .null])), (q12, .inl (cA 0, 36, .inl (fun _ => 0)))] H locs := hS
  refine k_putF (v := .ref q12) (C := RX1) (T := TX1) (N := 5) (ci := 1) hx hb hts hin_X1 tyX1 tyX1_ok nmX1 hown hK hS 0 rfl rfl 2 (by decide) (hts (.fieldLink RX1 15 "ChanceNets$Net" "widths" "[I") (by decide +kernel)) rfl rfl hnm rfl rfl rfl (Nat.le_of_ble_eq_true rfl) dX1_init_14 (fun H locs hS => ?_)
  have hS : KS dC dI A s [(h0, .inr (1, [.int 2, .int 0, .ref q12, .null, .null])), (q12, .inl (cA 0, 36, .inl (fun _ => 0)))] H locs := hS
  refine lv_aload_n hx hb dX1_init_17 rfl (lv_at hl 0 rfl) ?_
  refine lv_bipush (v := (10 : Int32)) hx hb dX1_init_18 (by decide) ?_
  refine k_newa (atype := .int) (ty := .int) (a0 := (10, .inl (fun _ => 0))) hx hb (hts (.arrayClass .int) (by decide +kernel)) rfl hK 0 rfl hS hA (fun _ => rfl) (by decide) rfl (Nat.le_of_ble_eq_true rfl) (Nat.le_of_ble_eq_true rfl) (Nat.le_of_ble_eq_true rfl) dX1_init_20 (fun q20 H hS => ?_)
  have hS : KS dC dI A s [(h0, .inr (1, [.int 2, .int 0, .ref q12, .null, .null])), (q12, .inl (cA 0, 36, .inl (fun _ => 0))), (q20, .inl (cA 0, 10, .inl (fun _ => 0)))] H locs := hS
  refine k_putF (v := .ref q20) (C := RX1) (T := TX1) (N := 5) (ci := 1) hx hb hts hin_X1 tyX1 tyX1_ok nmX1 hown hK hS 0 rfl rfl 3 (by decide) (hts (.fieldLink RX1 19 "ChanceNets$Net" "lows" "[I") (by decide +kernel)) rfl rfl hnm rfl rfl rfl (Nat.le_of_ble_eq_true rfl) dX1_init_22 (fun H locs hS => ?_)
  have hS : KS dC dI A s [(h0, .inr (1, [.int 2, .int 0, .ref q12, .ref q20, .null])), (q12, .inl (cA 0, 36, .inl (fun _ => 0))), (q20, .inl (cA 0, 10, .inl (fun _ => 0)))] H locs := hS
  refine lv_aload_n hx hb dX1_init_25 rfl (lv_at hl 0 rfl) ?_
  refine lv_bipush (v := (10 : Int32)) hx hb dX1_init_26 (by decide) ?_
  refine k_newa (atype := .int) (ty := .int) (a0 := (10, .inl (fun _ => 0))) hx hb (hts (.arrayClass .int) (by decide +kernel)) rfl hK 0 rfl hS hA (fun _ => rfl) (by decide) rfl (Nat.le_of_ble_eq_true rfl) (Nat.le_of_ble_eq_true rfl) (Nat.le_of_ble_eq_true rfl) dX1_init_28 (fun q28 H hS => ?_)
  have hS : KS dC dI A s [(h0, .inr (1, [.int 2, .int 0, .ref q12, .ref q20, .null])), (q12, .inl (cA 0, 36, .inl (fun _ => 0))), (q20, .inl (cA 0, 10, .inl (fun _ => 0))), (q28, .inl (cA 0, 10, .inl (fun _ => 0)))] H locs := hS
  refine k_putF (v := .ref q28) (C := RX1) (T := TX1) (N := 5) (ci := 1) hx hb hts hin_X1 tyX1 tyX1_ok nmX1 hown hK hS 0 rfl rfl 4 (by decide) (hts (.fieldLink RX1 22 "ChanceNets$Net" "highs" "[I") (by decide +kernel)) rfl rfl hnm rfl rfl rfl (Nat.le_of_ble_eq_true rfl) dX1_init_30 (fun H locs hS => ?_)
  have hS : KS dC dI A s [(h0, .inr (1, [.int 2, .int 0, .ref q12, .ref q20, .ref q28])), (q12, .inl (cA 0, 36, .inl (fun _ => 0))), (q20, .inl (cA 0, 10, .inl (fun _ => 0))), (q28, .inl (cA 0, 10, .inl (fun _ => 0)))] H locs := hS
  exact k_ret (S := Nat × Nat × Nat) (B := fun u => [(h0, .inr (1, [.int 2, .int 0, .ref u.1, .ref u.2.1, .ref u.2.2])), (u.1, .inl (cA 0, 36, .inl (fun _ => 0))), (u.2.1, .inl (cA 0, 10, .inl (fun _ => 0))), (u.2.2, .inl (cA 0, 10, .inl (fun _ => 0)))]) ((q12, q20, q28)) hx hb hr hK hS hlocks dX1_init_33 (Nat.le_of_ble_eq_true rfl) (Nat.le_of_ble_eq_true rfl)
set_option maxHeartbeats 4000000 in
set_option maxRecDepth 100000 in
theorem k_X2_init (l : Launch) (dC : Nat → ClassId) (dI : Nat → Nat → Nat) (cA : Nat → ClassId) (h0 : Nat) : Kc l dC dI cA yX2_init wsX2_init (RK 1 12 3 36) h0 (.inr (2, [.null, .null, .null, .int 0])) (fun u : Nat × Nat × Nat => [(h0, .inr (2, [.ref u.1, .ref u.2.1, .ref u.2.2, .int 0])), (u.1, .inl (cA 0, 12, .inl (fun _ => 0))), (u.2.1, .inl (cA 0, 12, .inl (fun _ => 0))), (u.2.2, .inl (cA 0, 12, .inl (fun _ => 0)))]) 3 36 := by
  refine mk_c (cc := cX2_init) (maxL := 1) (by decide) rfl rfl (Nat.le_of_ble_eq_true rfl) ?_
  intro p e s m args below meth c A ls hC hA hS hl
  obtain ⟨hx, hb, hr, hml, hown, hts, hlocks, hK, hO, hnm⟩ := hC
  have hl : lv_has ls 1 [(0, .ref h0)] := hl
  have hin_X2 : ∀ w ∈ u_ws RX2 TX2 4, w ∈ wsX2_init := by decide +kernel
  refine lv_aload_n hx hb dX2_init_0 rfl (lv_at hl 0 rfl) ?_
  refine W.objInit hx hb hown (hts (.methodLink RX2 3 objectInit) (by decide +kernel)) (hts (.instanceMethod objectInit) (by decide +kernel)) (hts (.code objectInit ⟨#[0xb1]⟩ 1 none) (by decide +kernel)) rfl (by rw [hml]; exact hl.1) rfl dX2_init_1 (Nat.le_of_ble_eq_true rfl) (Nat.le_of_ble_eq_true rfl) ?_
  refine W.eq (g2 := F0 m 4 ls []) rfl ?_
  refine lv_aload_n hx hb dX2_init_4 rfl (lv_at hl 0 rfl) ?_
  refine lv_bipush (v := (12 : Int32)) hx hb dX2_init_5 (by decide) ?_
  refine k_newa (atype := .int) (ty := .int) (a0 := (12, .inl (fun _ => 0))) hx hb (hts (.arrayClass .int) (by decide +kernel)) rfl hK 0 rfl hS hA (fun _ => rfl) (by decide) rfl (Nat.le_of_ble_eq_true rfl) (Nat.le_of_ble_eq_true rfl) (Nat.le_of_ble_eq_true rfl) dX2_init_7 (fun q7 H hS => ?_)
  have hS : KS dC dI A s [(h0, .inr (2, [.null, .null, .null, .int 0])), (q7, .inl (cA 0, 12, .inl (fun _ => 0)))] H [] := hS
  refine k_putF (v := .ref q7) (C := RX2) (T := TX2) (N := 4) (ci := 2) hx hb hts hin_X2 tyX2 tyX2_ok nmX2 hown hK hS 0 rfl rfl 0 (by decide) (hts (.fieldLink RX2 9 "ChanceNets$Past" "lows" "[I") (by decide +kernel)) rfl rfl hnm rfl rfl rfl (Nat.le_of_ble_eq_true rfl) dX2_init_9 (fun H locs hS => ?_)
  have hS : KS dC dI A s [(h0, .inr (2, [.ref q7, .null, .null, .int 0])), (q7, .inl (cA 0, 12, .inl (fun _ => 0)))] H locs := hS
  refine lv_aload_n hx hb dX2_init_12 rfl (lv_at hl 0 rfl) ?_
  refine lv_bipush (v := (12 : Int32)) hx hb dX2_init_13 (by decide) ?_
  refine k_newa (atype := .int) (ty := .int) (a0 := (12, .inl (fun _ => 0))) hx hb (hts (.arrayClass .int) (by decide +kernel)) rfl hK 0 rfl hS hA (fun _ => rfl) (by decide) rfl (Nat.le_of_ble_eq_true rfl) (Nat.le_of_ble_eq_true rfl) (Nat.le_of_ble_eq_true rfl) dX2_init_15 (fun q15 H hS => ?_)
  have hS : KS dC dI A s [(h0, .inr (2, [.ref q7, .null, .null, .int 0])), (q7, .inl (cA 0, 12, .inl (fun _ => 0))), (q15, .inl (cA 0, 12, .inl (fun _ => 0)))] H locs := hS
  refine k_putF (v := .ref q15) (C := RX2) (T := TX2) (N := 4) (ci := 2) hx hb hts hin_X2 tyX2 tyX2_ok nmX2 hown hK hS 0 rfl rfl 1 (by decide) (hts (.fieldLink RX2 15 "ChanceNets$Past" "highs" "[I") (by decide +kernel)) rfl rfl hnm rfl rfl rfl (Nat.le_of_ble_eq_true rfl) dX2_init_17 (fun H locs hS => ?_)
  have hS : KS dC dI A s [(h0, .inr (2, [.ref q7, .ref q15, .null, .int 0])), (q7, .inl (cA 0, 12, .inl (fun _ => 0))), (q15, .inl (cA 0, 12, .inl (fun _ => 0)))] H locs := hS
  refine lv_aload_n hx hb dX2_init_20 rfl (lv_at hl 0 rfl) ?_
  refine lv_bipush (v := (12 : Int32)) hx hb dX2_init_21 (by decide) ?_
  refine k_newa (atype := .int) (ty := .int) (a0 := (12, .inl (fun _ => 0))) hx hb (hts (.arrayClass .int) (by decide +kernel)) rfl hK 0 rfl hS hA (fun _ => rfl) (by decide) rfl (Nat.le_of_ble_eq_true rfl) (Nat.le_of_ble_eq_true rfl) (Nat.le_of_ble_eq_true rfl) dX2_init_23 (fun q23 H hS => ?_)
  have hS : KS dC dI A s [(h0, .inr (2, [.ref q7, .ref q15, .null, .int 0])), (q7, .inl (cA 0, 12, .inl (fun _ => 0))), (q15, .inl (cA 0, 12, .inl (fun _ => 0))), (q23, .inl (cA 0, 12, .inl (fun _ => 0)))] H locs := hS
  refine k_putF (v := .ref q23) (C := RX2) (T := TX2) (N := 4) (ci := 2) hx hb hts hin_X2 tyX2 tyX2_ok nmX2 hown hK hS 0 rfl rfl 2 (by decide) (hts (.fieldLink RX2 18 "ChanceNets$Past" "widths" "[I") (by decide +kernel)) rfl rfl hnm rfl rfl rfl (Nat.le_of_ble_eq_true rfl) dX2_init_25 (fun H locs hS => ?_)
  have hS : KS dC dI A s [(h0, .inr (2, [.ref q7, .ref q15, .ref q23, .int 0])), (q7, .inl (cA 0, 12, .inl (fun _ => 0))), (q15, .inl (cA 0, 12, .inl (fun _ => 0))), (q23, .inl (cA 0, 12, .inl (fun _ => 0)))] H locs := hS
  exact k_ret (S := Nat × Nat × Nat) (B := fun u => [(h0, .inr (2, [.ref u.1, .ref u.2.1, .ref u.2.2, .int 0])), (u.1, .inl (cA 0, 12, .inl (fun _ => 0))), (u.2.1, .inl (cA 0, 12, .inl (fun _ => 0))), (u.2.2, .inl (cA 0, 12, .inl (fun _ => 0)))]) ((q7, q15, q23)) hx hb hr hK hS hlocks dX2_init_28 (Nat.le_of_ble_eq_true rfl) (Nat.le_of_ble_eq_true rfl)
set_option maxHeartbeats 4000000 in
set_option maxRecDepth 100000 in
theorem k_X0_init (l : Launch) (dC : Nat → ClassId) (dI : Nat → Nat → Nat) (cA : Nat → ClassId) (h0 : Nat) : Kc l dC dI cA yX0_init wsX0_init (RK 1 12 7 35) h0 (.inr (0, [.null, .null, .int 0])) (fun u : Nat × (Nat → Nat) × Nat => [(h0, .inr (0, [.ref u.1, .ref u.2.2, .int 0])), (u.1, .inl (cA 4, 5, .inr (.inr (.inr (.inr (fun i => if i < 5 then some (u.2.1 i) else none)))))), (u.2.1 0, .inl (cA 1, 5, .inr (.inl (fun _ => 0)))), (u.2.1 1, .inl (cA 1, 5, .inr (.inl (fun _ => 0)))), (u.2.1 2, .inl (cA 1, 5, .inr (.inl (fun _ => 0)))), (u.2.1 3, .inl (cA 1, 5, .inr (.inl (fun _ => 0)))), (u.2.1 4, .inl (cA 1, 5, .inr (.inl (fun _ => 0)))), (u.2.2, .inl (cA 0, 5, .inl (fun _ => 0)))]) 7 35 := by
  refine mk_c (cc := cX0_init) (maxL := 1) (by decide) rfl rfl (Nat.le_of_ble_eq_true rfl) ?_
  intro p e s m args below meth c A ls hC hA hS hl
  obtain ⟨hx, hb, hr, hml, hown, hts, hlocks, hK, hO, hnm⟩ := hC
  have hl : lv_has ls 1 [(0, .ref h0)] := hl
  have hin_X0 : ∀ w ∈ u_ws RX0 TX0 3, w ∈ wsX0_init := by decide +kernel
  refine lv_aload_n hx hb dX0_init_0 rfl (lv_at hl 0 rfl) ?_
  refine W.objInit hx hb hown (hts (.methodLink RX0 3 objectInit) (by decide +kernel)) (hts (.instanceMethod objectInit) (by decide +kernel)) (hts (.code objectInit ⟨#[0xb1]⟩ 1 none) (by decide +kernel)) rfl (by rw [hml]; exact hl.1) rfl dX0_init_1 (Nat.le_of_ble_eq_true rfl) (Nat.le_of_ble_eq_true rfl) ?_
  refine W.eq (g2 := F0 m 4 ls []) rfl ?_
  refine lv_aload_n hx hb dX0_init_4 rfl (lv_at hl 0 rfl) ?_
  refine lv_iconst (v := (5 : Int32)) hx hb dX0_init_5 (by decide) ?_
  refine lv_iconst (v := (5 : Int32)) hx hb dX0_init_6 (by decide) ?_
  refine k_grid hx hb hown (hts (.classLink RX0 9 "[[J") (by decide +kernel)) hO (hts (.arrayClass .long) (by decide +kernel)) hK hS hA (Nat.le_of_ble_eq_true rfl) (Nat.le_of_ble_eq_true rfl) dX0_init_7 (fun q7 r H hS => ?_)
  have hS : KS dC dI A s [(h0, .inr (0, [.null, .null, .int 0])), (q7, .inl (cA 4, 5, .inr (.inr (.inr (.inr (fun i => if i < 5 then some (r i) else none)))))), (r 0, .inl (cA 1, 5, .inr (.inl (fun _ => 0)))), (r 1, .inl (cA 1, 5, .inr (.inl (fun _ => 0)))), (r 2, .inl (cA 1, 5, .inr (.inl (fun _ => 0)))), (r 3, .inl (cA 1, 5, .inr (.inl (fun _ => 0)))), (r 4, .inl (cA 1, 5, .inr (.inl (fun _ => 0))))] H [] := hS
  refine k_putF (v := .ref q7) (C := RX0) (T := TX0) (N := 3) (ci := 0) hx hb hts hin_X0 tyX0 tyX0_ok nmX0 hown hK hS 0 rfl rfl 0 (by decide) (hts (.fieldLink RX0 11 "ChanceNets$Balance" "grid" "[[J") (by decide +kernel)) rfl rfl hnm rfl rfl rfl (Nat.le_of_ble_eq_true rfl) dX0_init_11 (fun H locs hS => ?_)
  have hS : KS dC dI A s [(h0, .inr (0, [.ref q7, .null, .int 0])), (q7, .inl (cA 4, 5, .inr (.inr (.inr (.inr (fun i => if i < 5 then some (r i) else none)))))), (r 0, .inl (cA 1, 5, .inr (.inl (fun _ => 0)))), (r 1, .inl (cA 1, 5, .inr (.inl (fun _ => 0)))), (r 2, .inl (cA 1, 5, .inr (.inl (fun _ => 0)))), (r 3, .inl (cA 1, 5, .inr (.inl (fun _ => 0)))), (r 4, .inl (cA 1, 5, .inr (.inl (fun _ => 0))))] H locs := hS
  refine lv_aload_n hx hb dX0_init_14 rfl (lv_at hl 0 rfl) ?_
  refine lv_iconst (v := (5 : Int32)) hx hb dX0_init_15 (by decide) ?_
  refine k_newa (atype := .int) (ty := .int) (a0 := (5, .inl (fun _ => 0))) hx hb (hts (.arrayClass .int) (by decide +kernel)) rfl hK 0 rfl hS hA (fun _ => rfl) (by decide) rfl (Nat.le_of_ble_eq_true rfl) (Nat.le_of_ble_eq_true rfl) (Nat.le_of_ble_eq_true rfl) dX0_init_16 (fun q16 H hS => ?_)
  have hS : KS dC dI A s [(h0, .inr (0, [.ref q7, .null, .int 0])), (q7, .inl (cA 4, 5, .inr (.inr (.inr (.inr (fun i => if i < 5 then some (r i) else none)))))), (r 0, .inl (cA 1, 5, .inr (.inl (fun _ => 0)))), (r 1, .inl (cA 1, 5, .inr (.inl (fun _ => 0)))), (r 2, .inl (cA 1, 5, .inr (.inl (fun _ => 0)))), (r 3, .inl (cA 1, 5, .inr (.inl (fun _ => 0)))), (r 4, .inl (cA 1, 5, .inr (.inl (fun _ => 0)))), (q16, .inl (cA 0, 5, .inl (fun _ => 0)))] H locs := hS
  refine k_putF (v := .ref q16) (C := RX0) (T := TX0) (N := 3) (ci := 0) hx hb hts hin_X0 tyX0 tyX0_ok nmX0 hown hK hS 0 rfl rfl 1 (by decide) (hts (.fieldLink RX0 16 "ChanceNets$Balance" "order" "[I") (by decide +kernel)) rfl rfl hnm rfl rfl rfl (Nat.le_of_ble_eq_true rfl) dX0_init_18 (fun H locs hS => ?_)
  have hS : KS dC dI A s [(h0, .inr (0, [.ref q7, .ref q16, .int 0])), (q7, .inl (cA 4, 5, .inr (.inr (.inr (.inr (fun i => if i < 5 then some (r i) else none)))))), (r 0, .inl (cA 1, 5, .inr (.inl (fun _ => 0)))), (r 1, .inl (cA 1, 5, .inr (.inl (fun _ => 0)))), (r 2, .inl (cA 1, 5, .inr (.inl (fun _ => 0)))), (r 3, .inl (cA 1, 5, .inr (.inl (fun _ => 0)))), (r 4, .inl (cA 1, 5, .inr (.inl (fun _ => 0)))), (q16, .inl (cA 0, 5, .inl (fun _ => 0)))] H locs := hS
  exact k_ret (S := Nat × (Nat → Nat) × Nat) (B := fun u => [(h0, .inr (0, [.ref u.1, .ref u.2.2, .int 0])), (u.1, .inl (cA 4, 5, .inr (.inr (.inr (.inr (fun i => if i < 5 then some (u.2.1 i) else none)))))), (u.2.1 0, .inl (cA 1, 5, .inr (.inl (fun _ => 0)))), (u.2.1 1, .inl (cA 1, 5, .inr (.inl (fun _ => 0)))), (u.2.1 2, .inl (cA 1, 5, .inr (.inl (fun _ => 0)))), (u.2.1 3, .inl (cA 1, 5, .inr (.inl (fun _ => 0)))), (u.2.1 4, .inl (cA 1, 5, .inr (.inl (fun _ => 0)))), (u.2.2, .inl (cA 0, 5, .inl (fun _ => 0)))]) ((q7, r, q16)) hx hb hr hK hS hlocks dX0_init_21 (Nat.le_of_ble_eq_true rfl) (Nat.le_of_ble_eq_true rfl)
set_option maxHeartbeats 4000000 in
set_option maxRecDepth 100000 in
theorem k_X5_init (l : Launch) (dC : Nat → ClassId) (dI : Nat → Nat → Nat) (cA : Nat → ClassId) (h0 : Nat) : Kc l dC dI cA yX5_init wsX5_init (RK 1 12 2 768) h0 (.inr (5, [.null, .null])) (fun u : Nat × Nat => [(h0, .inr (5, [.ref u.1, .ref u.2])), (u.1, .inl (cA 1, 384, .inr (.inl (fun _ => 0)))), (u.2, .inl (cA 1, 384, .inr (.inl (fun _ => 0))))]) 2 768 := by
  refine mk_c (cc := cX5_init) (maxL := 1) (by decide) rfl rfl (Nat.le_of_ble_eq_true rfl) ?_
  intro p e s m args below meth c A ls hC hA hS hl
  obtain ⟨hx, hb, hr, hml, hown, hts, hlocks, hK, hO, hnm⟩ := hC
  have hl : lv_has ls 1 [(0, .ref h0)] := hl
  have hin_X5 : ∀ w ∈ u_ws RX5 TX5 2, w ∈ wsX5_init := by decide +kernel
  refine lv_aload_n hx hb dX5_init_0 rfl (lv_at hl 0 rfl) ?_
  refine W.objInit hx hb hown (hts (.methodLink RX5 3 objectInit) (by decide +kernel)) (hts (.instanceMethod objectInit) (by decide +kernel)) (hts (.code objectInit ⟨#[0xb1]⟩ 1 none) (by decide +kernel)) rfl (by rw [hml]; exact hl.1) rfl dX5_init_1 (Nat.le_of_ble_eq_true rfl) (Nat.le_of_ble_eq_true rfl) ?_
  refine W.eq (g2 := F0 m 4 ls []) rfl ?_
  refine lv_aload_n hx hb dX5_init_4 rfl (lv_at hl 0 rfl) ?_
  refine lv_sipush (v := (384 : Int32)) hx hb dX5_init_5 (by decide) ?_
  refine k_newa (atype := .long) (ty := .long) (a0 := (384, .inr (.inl (fun _ => 0)))) hx hb (hts (.arrayClass .long) (by decide +kernel)) rfl hK 1 rfl hS hA (fun _ => rfl) (by decide) rfl (Nat.le_of_ble_eq_true rfl) (Nat.le_of_ble_eq_true rfl) (Nat.le_of_ble_eq_true rfl) dX5_init_8 (fun q8 H hS => ?_)
  have hS : KS dC dI A s [(h0, .inr (5, [.null, .null])), (q8, .inl (cA 1, 384, .inr (.inl (fun _ => 0))))] H [] := hS
  refine k_put (v := .ref q8) (C := RX5) (T := TX5) (N := 2) (ci := 5) hx hb hts hin_X5 tyX5 tyX5_ok nmX5 hown hK hS 0 rfl rfl 0 (by decide) (hts (.fieldLink RX5 11 "ChanceNets$Walker" "here" "[J") (by decide +kernel)) rfl rfl rfl rfl (Nat.le_of_ble_eq_true rfl) dX5_init_10 (fun H locs hS => ?_)
  have hS : KS dC dI A s [(h0, .inr (5, [.ref q8, .null])), (q8, .inl (cA 1, 384, .inr (.inl (fun _ => 0))))] H locs := hS
  refine lv_aload_n hx hb dX5_init_13 rfl (lv_at hl 0 rfl) ?_
  refine lv_sipush (v := (384 : Int32)) hx hb dX5_init_14 (by decide) ?_
  refine k_newa (atype := .long) (ty := .long) (a0 := (384, .inr (.inl (fun _ => 0)))) hx hb (hts (.arrayClass .long) (by decide +kernel)) rfl hK 1 rfl hS hA (fun _ => rfl) (by decide) rfl (Nat.le_of_ble_eq_true rfl) (Nat.le_of_ble_eq_true rfl) (Nat.le_of_ble_eq_true rfl) dX5_init_17 (fun q17 H hS => ?_)
  have hS : KS dC dI A s [(h0, .inr (5, [.ref q8, .null])), (q8, .inl (cA 1, 384, .inr (.inl (fun _ => 0)))), (q17, .inl (cA 1, 384, .inr (.inl (fun _ => 0))))] H locs := hS
  refine k_put (v := .ref q17) (C := RX5) (T := TX5) (N := 2) (ci := 5) hx hb hts hin_X5 tyX5 tyX5_ok nmX5 hown hK hS 0 rfl rfl 1 (by decide) (hts (.fieldLink RX5 15 "ChanceNets$Walker" "next" "[J") (by decide +kernel)) rfl rfl rfl rfl (Nat.le_of_ble_eq_true rfl) dX5_init_19 (fun H locs hS => ?_)
  have hS : KS dC dI A s [(h0, .inr (5, [.ref q8, .ref q17])), (q8, .inl (cA 1, 384, .inr (.inl (fun _ => 0)))), (q17, .inl (cA 1, 384, .inr (.inl (fun _ => 0))))] H locs := hS
  exact k_ret (S := Nat × Nat) (B := fun u => [(h0, .inr (5, [.ref u.1, .ref u.2])), (u.1, .inl (cA 1, 384, .inr (.inl (fun _ => 0)))), (u.2, .inl (cA 1, 384, .inr (.inl (fun _ => 0))))]) ((q8, q17)) hx hb hr hK hS hlocks dX5_init_22 (Nat.le_of_ble_eq_true rfl) (Nat.le_of_ble_eq_true rfl)
set_option maxHeartbeats 4000000 in
set_option maxRecDepth 100000 in
theorem k_X3_init (l : Launch) (dC : Nat → ClassId) (dI : Nat → Nat → Nat) (cA : Nat → ClassId) (h0 : Nat) : Kc l dC dI cA yX3_init wsX3_init (RK 1 12 2 72) h0 (.inr (3, [.null, .null, .int 0])) (fun u : Nat × Nat => [(h0, .inr (3, [.ref u.1, .ref u.2, .int 0])), (u.1, .inl (cA 1, 36, .inr (.inl (fun _ => 0)))), (u.2, .inl (cA 1, 36, .inr (.inl (fun _ => 0))))]) 2 72 := by
  refine mk_c (cc := cX3_init) (maxL := 1) (by decide) rfl rfl (Nat.le_of_ble_eq_true rfl) ?_
  intro p e s m args below meth c A ls hC hA hS hl
  obtain ⟨hx, hb, hr, hml, hown, hts, hlocks, hK, hO, hnm⟩ := hC
  have hl : lv_has ls 1 [(0, .ref h0)] := hl
  have hin_X3 : ∀ w ∈ u_ws RX3 TX3 3, w ∈ wsX3_init := by decide +kernel
  refine lv_aload_n hx hb dX3_init_0 rfl (lv_at hl 0 rfl) ?_
  refine W.objInit hx hb hown (hts (.methodLink RX3 3 objectInit) (by decide +kernel)) (hts (.instanceMethod objectInit) (by decide +kernel)) (hts (.code objectInit ⟨#[0xb1]⟩ 1 none) (by decide +kernel)) rfl (by rw [hml]; exact hl.1) rfl dX3_init_1 (Nat.le_of_ble_eq_true rfl) (Nat.le_of_ble_eq_true rfl) ?_
  refine W.eq (g2 := F0 m 4 ls []) rfl ?_
  refine lv_aload_n hx hb dX3_init_4 rfl (lv_at hl 0 rfl) ?_
  refine lv_bipush (v := (36 : Int32)) hx hb dX3_init_5 (by decide) ?_
  refine k_newa (atype := .long) (ty := .long) (a0 := (36, .inr (.inl (fun _ => 0)))) hx hb (hts (.arrayClass .long) (by decide +kernel)) rfl hK 1 rfl hS hA (fun _ => rfl) (by decide) rfl (Nat.le_of_ble_eq_true rfl) (Nat.le_of_ble_eq_true rfl) (Nat.le_of_ble_eq_true rfl) dX3_init_7 (fun q7 H hS => ?_)
  have hS : KS dC dI A s [(h0, .inr (3, [.null, .null, .int 0])), (q7, .inl (cA 1, 36, .inr (.inl (fun _ => 0))))] H [] := hS
  refine k_putF (v := .ref q7) (C := RX3) (T := TX3) (N := 3) (ci := 3) hx hb hts hin_X3 tyX3 tyX3_ok nmX3 hown hK hS 0 rfl rfl 0 (by decide) (hts (.fieldLink RX3 9 "ChanceNets$Smaller" "uppers" "[J") (by decide +kernel)) rfl rfl hnm rfl rfl rfl (Nat.le_of_ble_eq_true rfl) dX3_init_9 (fun H locs hS => ?_)
  have hS : KS dC dI A s [(h0, .inr (3, [.ref q7, .null, .int 0])), (q7, .inl (cA 1, 36, .inr (.inl (fun _ => 0))))] H locs := hS
  refine lv_aload_n hx hb dX3_init_12 rfl (lv_at hl 0 rfl) ?_
  refine lv_bipush (v := (36 : Int32)) hx hb dX3_init_13 (by decide) ?_
  refine k_newa (atype := .long) (ty := .long) (a0 := (36, .inr (.inl (fun _ => 0)))) hx hb (hts (.arrayClass .long) (by decide +kernel)) rfl hK 1 rfl hS hA (fun _ => rfl) (by decide) rfl (Nat.le_of_ble_eq_true rfl) (Nat.le_of_ble_eq_true rfl) (Nat.le_of_ble_eq_true rfl) dX3_init_15 (fun q15 H hS => ?_)
  have hS : KS dC dI A s [(h0, .inr (3, [.ref q7, .null, .int 0])), (q7, .inl (cA 1, 36, .inr (.inl (fun _ => 0)))), (q15, .inl (cA 1, 36, .inr (.inl (fun _ => 0))))] H locs := hS
  refine k_putF (v := .ref q15) (C := RX3) (T := TX3) (N := 3) (ci := 3) hx hb hts hin_X3 tyX3 tyX3_ok nmX3 hown hK hS 0 rfl rfl 1 (by decide) (hts (.fieldLink RX3 15 "ChanceNets$Smaller" "lowers" "[J") (by decide +kernel)) rfl rfl hnm rfl rfl rfl (Nat.le_of_ble_eq_true rfl) dX3_init_17 (fun H locs hS => ?_)
  have hS : KS dC dI A s [(h0, .inr (3, [.ref q7, .ref q15, .int 0])), (q7, .inl (cA 1, 36, .inr (.inl (fun _ => 0)))), (q15, .inl (cA 1, 36, .inr (.inl (fun _ => 0))))] H locs := hS
  exact k_ret (S := Nat × Nat) (B := fun u => [(h0, .inr (3, [.ref u.1, .ref u.2, .int 0])), (u.1, .inl (cA 1, 36, .inr (.inl (fun _ => 0)))), (u.2, .inl (cA 1, 36, .inr (.inl (fun _ => 0))))]) ((q7, q15)) hx hb hr hK hS hlocks dX3_init_20 (Nat.le_of_ble_eq_true rfl) (Nat.le_of_ble_eq_true rfl)
