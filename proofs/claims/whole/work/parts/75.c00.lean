set_option maxHeartbeats 4000000 in
set_option maxRecDepth 100000 in
theorem c_X4_takes (l : Launch) (dC : Nat → ClassId) (dI : Nat → Nat → Nat) (ad : Nat → Nat) (cA : Nat → ClassId) (σ : Sg) (a1 : Int32) (z : Int32 × Sg) (hB : f_X4_takes σ a1 = some z) : Ki l dC dI ad cA yX4_takes wsX4_takes 0 0 [.ref (ad 1), .int a1] σ z := by
  refine mk_i (cc := cX4_takes) (maxL := 2) (ret := (some .boolean)) (by decide) rfl (Nat.le_of_ble_eq_true rfl) ?_
  intro p e s m args below meth c Q H locs ls ⟨hx, hb, hr, hml, hown, hts, hlocks, hK, hN⟩ hQ hS hl
  have hown : s.vm.findClass RX4 = some m.cls := hown
  have hl : lv_has ls 2 [(0, .ref (ad 1)), (1, .int a1)] := hl
  have hk_f15 := hts (.fieldLink RX4 15 "ChanceNets$Text" "length" "I") (by decide +kernel)
  have hin_X4 : ∀ w ∈ u_ws RX4 TX4 4, w ∈ wsX4_takes := by decide +kernel
  have hk_f9 := hts (.fieldLink RX4 9 "ChanceNets$Text" "letters" "[I") (by decide +kernel)
  unfold f_X4_takes at hB
  refine lv_aload_n hx hb dX4_takes_0 rfl (lv_at hl 0 rfl) ?_
  refine r_get (v := .int (gI σ 1)) (C := RX4) (T := TX4) (N := 4) hx hb hts hin_X4 hown hK hS (by decide) e_1 rfl 1 (by decide) hk_f15 rfl rfl dX4_takes_1 ?_
  refine lv_bipush (v := (80 : Int32)) hx hb dX4_takes_4 (by decide) ?_
  refine lv_icmp_lt (tgt := 11) hx hb dX4_takes_6 (by decide) (fun c1 => ?_) (fun c1 => ?_)
  · have hB := it_t c1 hB
    refine lv_aload_n hx hb dX4_takes_11 rfl (lv_at hl 0 rfl) ?_
    refine r_get (v := .ref (ad 2)) (C := RX4) (T := TX4) (N := 4) hx hb hts hin_X4 hown hK hS (by decide) e_1 rfl 0 (by decide) hk_f9 rfl rfl dX4_takes_12 ?_
    refine lv_aload_n hx hb dX4_takes_15 rfl (lv_at hl 0 rfl) ?_
    refine r_get (v := .int (gI σ 1)) (C := RX4) (T := TX4) (N := 4) hx hb hts hin_X4 hown hK hS (by decide) e_1 rfl 1 (by decide) hk_f15 rfl rfl dX4_takes_16 ?_
    refine lv_iload_n hx hb dX4_takes_19 rfl (lv_at hl 1 rfl) ?_
    obtain ⟨h2, hB⟩ := gd_at hB
    refine r_iast hx hb hK hS h2 dX4_takes_20 (fun H locs hS => ?_)
    obtain ⟨σ3, eσ3⟩ : ∃ t : Sg, t = pA σ 2 (gI σ 1).toNatClampNeg a1 := ⟨_, rfl⟩
    rw [← eσ3] at hS
    have hB := vl_at eσ3 hB
    refine lv_aload_n hx hb dX4_takes_21 rfl (lv_at hl 0 rfl) ?_
    refine lv_dup hx hb dX4_takes_22 rfl ?_
    refine r_get (v := .int (gI σ3 1)) (C := RX4) (T := TX4) (N := 4) hx hb hts hin_X4 hown hK hS (by decide) e_1 rfl 1 (by decide) hk_f15 rfl rfl dX4_takes_23 ?_
    refine lv_iconst (v := (1 : Int32)) hx hb dX4_takes_26 (by decide) ?_
    refine lv_iadd hx hb dX4_takes_27 ?_
    refine lv_topi (fun x4 ex4 => ?_)
    have hB := vl_at ex4 hB
    refine r_put (σ' := pI σ3 1 x4) (v := .int x4) (C := RX4) (T := TX4) (N := 4) hx hb hts hin_X4 tyX4 tyX4_ok nmX4 hown hK hS (by decide) e_1 rfl 1 (by decide) hk_f15 rfl rfl rfl rfl (Nat.le_of_ble_eq_true rfl) (fun d hd h => eo d hd h) rfl dX4_takes_28 (fun H locs hS => ?_)
    obtain ⟨σ5, eσ5⟩ : ∃ t : Sg, t = pI σ3 1 x4 := ⟨_, rfl⟩
    rw [← eσ5] at hS
    have hB := vl_at eσ5 hB
    refine lv_iconst (v := (1 : Int32)) hx hb dX4_takes_31 (by decide) ?_
    subst hQ
    exact r_zret hx hb hr hK hS rfl hB hlocks dX4_takes_32
  · have hB := it_f c1 hB
    refine lv_iconst (v := (0 : Int32)) hx hb dX4_takes_9 (by decide) ?_
    subst hQ
    exact r_zret hx hb hr hK hS rfl hB hlocks dX4_takes_10
set_option maxHeartbeats 4000000 in
set_option maxRecDepth 100000 in
theorem c_X6_type (l : Launch) (dC : Nat → ClassId) (dI : Nat → Nat → Nat) (ad : Nat → Nat) (cA : Nat → ClassId) (σ : Sg) (a1 : Int32) (z : Int32 × Sg) (hB : f_X6_type σ a1 = some z) : Ki l dC dI ad cA yX6_type wsX6_type 1 21 [.ref (ad 0), .int a1] σ z := by
  refine mk_i (cc := cX6_type) (maxL := 2) (ret := (some .int)) (by decide) rfl (Nat.le_of_ble_eq_true rfl) ?_
  intro p e s m args below meth c Q H locs ls ⟨hx, hb, hr, hml, hown, hts, hlocks, hK, hN⟩ hQ hS hl
  have hown : s.vm.findClass RX6 = some m.cls := hown
  have hl : lv_has ls 2 [(0, .ref (ad 0)), (1, .int a1)] := hl
  have hk_f10 := hts (.fieldLink RX6 10 "ChanceNets" "text" "LChanceNets$Text;") (by decide +kernel)
  have hin_X6 : ∀ w ∈ u_ws RX6 TX6 13, w ∈ wsX6_type := by decide +kernel
  have hk_f76 := hts (.fieldLink RX6 76 "ChanceNets$Text" "length" "I") (by decide +kernel)
  have hin_X4 : ∀ w ∈ u_ws RX4 TX4 4, w ∈ wsX6_type := by decide +kernel
  unfold f_X6_type at hB
  refine lv_iload_n hx hb dX6_type_0 rfl (lv_at hl 1 rfl) ?_
  refine lv_if_lt (tgt := 11) hx hb dX6_type_1 (by decide) (fun c1 => ?_) (fun c1 => ?_)
  · have hB := it_t c1 hB
    refine lv_iconst (v := (-1 : Int32)) hx hb dX6_type_11 (by decide) ?_
    subst hQ
    exact r_iret hx hb hr hK hS hB hlocks dX6_type_12
  · have hB := it_f c1 hB
    refine lv_iload_n hx hb dX6_type_4 rfl (lv_at hl 1 rfl) ?_
    refine lv_sipush (v := (255 : Int32)) hx hb dX6_type_5 (by decide) ?_
    refine lv_icmp_le (tgt := 13) hx hb dX6_type_8 (by decide) (fun c2 => ?_) (fun c2 => ?_)
    · have hB := it_t c2 hB
      refine lv_aload_n hx hb dX6_type_13 rfl (lv_at hl 0 rfl) ?_
      refine r_get (v := .ref (ad 1)) (C := RX6) (T := TX6) (N := 13) hx hb hts hin_X6 hown hK hS (by decide) e_0 rfl 0 (by decide) hk_f10 rfl rfl dX6_type_14 ?_
      refine lv_iload_n hx hb dX6_type_17 rfl (lv_at hl 1 rfl) ?_
      obtain ⟨t3, ht3, hB⟩ := bi_at hB
      refine r_Vi ⟨hx, hb, hml, hown, hts⟩ (c_X4_takes l dC dI ad cA σ a1 t3 ht3) (cwV 1 hts gX6_type_X4_takes rfl rfl rfl (by decide +kernel) ⟨Nat.le_of_ble_eq_true rfl, Nat.le_of_ble_eq_true rfl⟩) hK hN hS (by decide) e_1 rfl rfl hl.1 rfl (Nat.le_of_ble_eq_true rfl) dX6_type_18 ⟨Nat.le_refl _, Nat.le_refl _⟩ (fun H locs hS => ?_)
      refine lv_if_eq (tgt := 34) hx hb dX6_type_21 (by decide) (fun c4 => ?_) (fun c4 => ?_)
      · have hB := it_t c4 hB
        refine lv_bipush (v := (-3 : Int32)) hx hb dX6_type_34 (by decide) ?_
        subst hQ
        exact r_iret hx hb hr hK hS hB hlocks dX6_type_36
      · have hB := it_f c4 hB
        refine lv_aload_n hx hb dX6_type_24 rfl (lv_at hl 0 rfl) ?_
        refine r_get (v := .ref (ad 1)) (C := RX6) (T := TX6) (N := 13) hx hb hts hin_X6 hown hK hS (by decide) e_0 rfl 0 (by decide) hk_f10 rfl rfl dX6_type_25 ?_
        refine r_get (v := .int (gI t3.2 1)) (C := RX4) (T := TX4) (N := 4) hx hb hts hin_X4 hown hK hS (by decide) e_1 rfl 1 (by decide) hk_f76 rfl rfl dX6_type_28 ?_
        refine lv_goto (tgt := 36) hx hb dX6_type_31 (by decide) ?_
        subst hQ
        exact r_iret hx hb hr hK hS hB hlocks dX6_type_36
    · have hB := it_f c2 hB
      refine lv_iconst (v := (-1 : Int32)) hx hb dX6_type_11 (by decide) ?_
      subst hQ
      exact r_iret hx hb hr hK hS hB hlocks dX6_type_12
set_option maxHeartbeats 4000000 in
set_option maxRecDepth 100000 in
theorem c_X6_clear (l : Launch) (dC : Nat → ClassId) (dI : Nat → Nat → Nat) (ad : Nat → Nat) (cA : Nat → ClassId) (σ : Sg)  (z : Int32 × Sg) (hB : f_X6_clear σ = some z) : Ki l dC dI ad cA yX6_clear wsX6_clear 0 0 [.ref (ad 0)] σ z := by
  refine mk_i (cc := cX6_clear) (maxL := 2) (ret := (some .int)) (by decide) rfl (Nat.le_of_ble_eq_true rfl) ?_
  intro p e s m args below meth c Q H locs ls ⟨hx, hb, hr, hml, hown, hts, hlocks, hK, hN⟩ hQ hS hl
  have hown : s.vm.findClass RX6 = some m.cls := hown
  have hl : lv_has ls 2 [(0, .ref (ad 0))] := hl
  have hk_f10 := hts (.fieldLink RX6 10 "ChanceNets" "text" "LChanceNets$Text;") (by decide +kernel)
  have hin_X6 : ∀ w ∈ u_ws RX6 TX6 13, w ∈ wsX6_clear := by decide +kernel
  have hk_f76 := hts (.fieldLink RX6 76 "ChanceNets$Text" "length" "I") (by decide +kernel)
  have hin_X4 : ∀ w ∈ u_ws RX4 TX4 4, w ∈ wsX6_clear := by decide +kernel
  unfold f_X6_clear at hB
  refine lv_aload_n hx hb dX6_clear_0 rfl (lv_at hl 0 rfl) ?_
  refine r_get (v := .ref (ad 1)) (C := RX6) (T := TX6) (N := 13) hx hb hts hin_X6 hown hK hS (by decide) e_0 rfl 0 (by decide) hk_f10 rfl rfl dX6_clear_1 ?_
  refine r_get (v := .int (gI σ 1)) (C := RX4) (T := TX4) (N := 4) hx hb hts hin_X4 hown hK hS (by decide) e_1 rfl 1 (by decide) hk_f76 rfl rfl dX6_clear_4 ?_
  refine lv_topi (fun x1 ex1 => ?_)
  have hB := vl_at ex1 hB
  refine lv_istore_n (lv' := [(1, .int x1), (0, .ref (ad 0))]) hx hb dX6_clear_7 rfl hl (by decide) rfl (fun ls hl => ?_)
  refine lv_aload_n hx hb dX6_clear_8 rfl (lv_at hl 1 rfl) ?_
  refine r_get (v := .ref (ad 1)) (C := RX6) (T := TX6) (N := 13) hx hb hts hin_X6 hown hK hS (by decide) e_0 rfl 0 (by decide) hk_f10 rfl rfl dX6_clear_9 ?_
  refine lv_iconst (v := (0 : Int32)) hx hb dX6_clear_12 (by decide) ?_
  refine r_put (σ' := pI σ 1 (0 : Int32)) (v := .int (0 : Int32)) (C := RX4) (T := TX4) (N := 4) hx hb hts hin_X4 tyX4 tyX4_ok nmX4 hown hK hS (by decide) e_1 rfl 1 (by decide) hk_f76 rfl rfl rfl rfl (Nat.le_of_ble_eq_true rfl) (fun d hd h => eo d hd h) rfl dX6_clear_13 (fun H locs hS => ?_)
  obtain ⟨σ2, eσ2⟩ : ∃ t : Sg, t = pI σ 1 (0 : Int32) := ⟨_, rfl⟩
  rw [← eσ2] at hS
  have hB := vl_at eσ2 hB
  refine lv_iload_n hx hb dX6_clear_16 rfl (lv_at hl 0 rfl) ?_
  subst hQ
  exact r_iret hx hb hr hK hS hB hlocks dX6_clear_17
set_option maxHeartbeats 4000000 in
set_option maxRecDepth 100000 in
theorem c_J7_fill_53178 (l : Launch) (dC : Nat → ClassId) (dI : Nat → Nat → Nat) (ad : Nat → Nat) (cA : Nat → ClassId) (σ : Sg) (q : Nat) (hq : ¬ lenA q = 0) (a2 : Int32) (z : Sg) (hB : f_J7_fill_53178 σ q a2 = some z) : Kv l dC dI ad cA yJ7_fill_53178 wsJ7_fill_53178 0 0 [.ref (ad q), .int a2] σ z := by
  refine mk_v (cc := cJ7_fill_53178) (maxL := 4) (ret := none) (by decide) rfl (Nat.le_of_ble_eq_true rfl) ?_
  intro p e s m args below meth c Q H locs ls ⟨hx, hb, hr, hml, hown, hts, hlocks, hK, hN⟩ hQ hS hl
  have hown : s.vm.findClass RJ7 = some m.cls := hown
  have hl : lv_has ls 4 [(0, .ref (ad q)), (1, .int a2)] := hl
  unfold f_J7_fill_53178 at hB
  refine lv_iconst (v := (0 : Int32)) hx hb dJ7_fill_53178_0 (by decide) ?_
  refine lv_istore_n (lv' := [(2, .int (0 : Int32)), (0, .ref (ad q)), (1, .int a2)]) hx hb dJ7_fill_53178_1 rfl hl (by decide) rfl (fun ls hl => ?_)
  refine lv_aload_n hx hb dJ7_fill_53178_2 rfl (lv_at hl 1 rfl) ?_
  refine r_alenA (v := nI (lenA q)) hx hb hK hS hq rfl dJ7_fill_53178_3 ?_
  refine lv_topi (fun x1 ex1 => ?_)
  have hB := vl_at ex1 hB
  refine lv_istore_n (lv' := [(3, .int x1), (2, .int (0 : Int32)), (0, .ref (ad q)), (1, .int a2)]) hx hb dJ7_fill_53178_4 rfl hl (by decide) rfl (fun ls hl => ?_)
  obtain ⟨t8, ht8, hB⟩ := bi_at hB
  refine wl_W (body := fun a => f_J7_fill_53178_B5 q a2 x1 a.1 a.2) (Hd := fun a : Int32 × Sg => ∀ (H : Heap) (locs : List Loc) (ls : Array Slot), ST dC dI ad cA s a.2 H locs → lv_has ls 4 [(0, .ref (ad q)), (1, .int a2), (2, .int a.1), (3, .int x1)] → W p l e (RM 0 0) s m args below meth c H locs 0 0 Q (F0 m 5 ls [])) (Ex := fun b : Sg => ∀ (H : Heap) (locs : List Loc) (ls : Array Slot), ST dC dI ad cA s b H locs → lv_has ls 4 [] → W p l e (RM 0 0) s m args below meth c H locs 0 0 Q (F0 m 20 ls [])) ?_ FU _ t8 ht8 ?_ H locs ls hS (lv_sub hl [2, 3, 1, 0] rfl)
  · intro a r5 hB hI5 hE5 H locs ls hS hl
    obtain ⟨x2, σ3⟩ := a
    have hB : f_J7_fill_53178_B5 q a2 x1 x2 σ3 = some r5 := hB
    unfold f_J7_fill_53178_B5 at hB
    have hS : ST dC dI ad cA s σ3 H locs := hS
    have hl : lv_has ls 4 [(0, .ref (ad q)), (1, .int a2), (2, .int x2), (3, .int x1)] := hl
    show W p l e (RM 0 0) s m args below meth c H locs 0 0 Q (F0 m 5 ls [])
    refine lv_iload_n hx hb dJ7_fill_53178_5 rfl (lv_at hl 2 rfl) ?_
    refine lv_iload_n hx hb dJ7_fill_53178_6 rfl (lv_at hl 3 rfl) ?_
    refine lv_icmp_ge (tgt := 20) hx hb dJ7_fill_53178_7 (by decide) (fun c4 => ?_) (fun c4 => ?_)
    · have hB := it_t c4 hB
      exact hE5 _ (Option.some.inj hB).symm H locs ls hS (lv_sub hl [] rfl)
    · have hB := it_f c4 hB
      refine lv_aload_n hx hb dJ7_fill_53178_10 rfl (lv_at hl 0 rfl) ?_
      refine lv_iload_n hx hb dJ7_fill_53178_11 rfl (lv_at hl 2 rfl) ?_
      refine lv_iload_n hx hb dJ7_fill_53178_12 rfl (lv_at hl 1 rfl) ?_
      obtain ⟨h5, hB⟩ := gd_at hB
      refine r_iast hx hb hK hS h5 dJ7_fill_53178_13 (fun H locs hS => ?_)
      obtain ⟨σ6, eσ6⟩ : ∃ t : Sg, t = pA σ3 q x2.toNatClampNeg a2 := ⟨_, rfl⟩
      rw [← eσ6] at hS
      have hB := vl_at eσ6 hB
      obtain ⟨x7, ex7⟩ : ∃ y : Int32, y = x2 + (1 : Int32) := ⟨_, rfl⟩
      have hB := vl_at ex7 hB
      refine lv_iinc (v := x7) (lv' := [(2, .int x7), (0, .ref (ad q)), (1, .int a2), (3, .int x1)]) hx hb dJ7_fill_53178_14 hl (k := 2) rfl (by rw [ex7]; rfl) (by decide) rfl (fun ls hl => ?_)
      refine lv_goto (tgt := 5) hx hb dJ7_fill_53178_17 (by decide) ?_
      exact hI5 _ (Option.some.inj hB).symm H locs ls hS (lv_sub hl [1, 2, 0, 3] rfl)
  · skip
    intro H locs ls hS hl
    have hS : ST dC dI ad cA s t8 H locs := hS
    have hl : lv_has ls 4 [] := hl
    show W p l e (RM 0 0) s m args below meth c H locs 0 0 Q (F0 m 20 ls [])
    subst hQ
    exact r_vret hx hb hr hK hS hB hlocks dJ7_fill_53178_20
set_option maxHeartbeats 4000000 in
set_option maxRecDepth 100000 in
theorem c_X1_empty (l : Launch) (dC : Nat → ClassId) (dI : Nat → Nat → Nat) (ad : Nat → Nat) (cA : Nat → ClassId) (σ : Sg) (k : Nat) (hk : k < 5) (a1 : Int32) (z : Sg) (hB : f_X1_empty σ k a1 = some z) : Kv l dC dI ad cA yX1_empty wsX1_empty 1 23 [.ref (ad (3 + 4 * k)), .int a1] σ z := by
  refine mk_v (cc := cX1_empty) (maxL := 2) (ret := none) (by decide) rfl (Nat.le_of_ble_eq_true rfl) ?_
  intro p e s m args below meth c Q H locs ls ⟨hx, hb, hr, hml, hown, hts, hlocks, hK, hN⟩ hQ hS hl
  have hown : s.vm.findClass RX1 = some m.cls := hown
  have hl : lv_has ls 2 [(0, .ref (ad (3 + 4 * k))), (1, .int a1)] := hl
  have hk_m25 := hts (.methodLink RX1 25 Lib.Math.min.name) (by decide +kernel)
  have hk_s25 := hts (.static Lib.Math.min.name) (by decide +kernel)
  have hk_iMath := hts (.initialized "java/lang/Math") (by decide +kernel)
  have hk_o25 := hts (.code Lib.Math.min.name Lib.Math.min.code 2 (some .int)) (by decide +kernel)
  have hk_m31 := hts (.methodLink RX1 31 Lib.Math.max.name) (by decide +kernel)
  have hk_s31 := hts (.static Lib.Math.max.name) (by decide +kernel)
  have hk_o31 := hts (.code Lib.Math.max.name Lib.Math.max.code 2 (some .int)) (by decide +kernel)
  have hk_f9 := hts (.fieldLink RX1 9 "ChanceNets$Net" "nodes" "I") (by decide +kernel)
  have hin_X1 : ∀ w ∈ u_ws RX1 TX1 5, w ∈ wsX1_empty := by decide +kernel
  have hk_f34 := hts (.fieldLink RX1 34 "ChanceNets$Net" "lines" "I") (by decide +kernel)
  have hk_f15 := hts (.fieldLink RX1 15 "ChanceNets$Net" "widths" "[I") (by decide +kernel)
  unfold f_X1_empty at hB
  refine lv_aload_n hx hb dX1_empty_0 rfl (lv_at hl 0 rfl) ?_
  refine lv_iconst (v := (2 : Int32)) hx hb dX1_empty_1 (by decide) ?_
  refine lv_bipush (v := (6 : Int32)) hx hb dX1_empty_2 (by decide) ?_
  refine lv_iload_n hx hb dX1_empty_4 rfl (lv_at hl 1 rfl) ?_
  refine va_mmin hx hb (hml.trans hl.1.symm) hown hk_m25 hk_s25 hk_iMath hk_o25 (Nat.le_of_ble_eq_true rfl) (Nat.le_of_ble_eq_true rfl) (Nat.zero_le _) (Nat.zero_le _) dX1_empty_5 ?_
  refine va_mmax hx hb (hml.trans hl.1.symm) hown hk_m31 hk_s31 hk_iMath hk_o31 (Nat.le_of_ble_eq_true rfl) (Nat.le_of_ble_eq_true rfl) (Nat.zero_le _) (Nat.zero_le _) dX1_empty_8 ?_
  refine lv_topi (fun x1 ex1 => ?_)
  have hB := vl_at ex1 hB
  refine r_put (σ' := pI σ (4 + 2 * k) x1) (v := .int x1) (C := RX1) (T := TX1) (N := 5) hx hb hts hin_X1 tyX1 tyX1_ok nmX1 hown hK hS (by omega) (e_net (k := k) hk) rfl 0 (by decide) hk_f9 rfl rfl rfl rfl (Nat.le_of_ble_eq_true rfl) (fun d hd h => eo d hd (by rw [own_n hk]; exact h)) (e_netn (k := k) hk) dX1_empty_11 (fun H locs hS => ?_)
  obtain ⟨σ2, eσ2⟩ : ∃ t : Sg, t = pI σ (4 + 2 * k) x1 := ⟨_, rfl⟩
  rw [← eσ2] at hS
  have hB := vl_at eσ2 hB
  refine lv_aload_n hx hb dX1_empty_14 rfl (lv_at hl 0 rfl) ?_
  refine lv_iconst (v := (0 : Int32)) hx hb dX1_empty_15 (by decide) ?_
  refine r_put (σ' := pI σ2 (5 + 2 * k) (0 : Int32)) (v := .int (0 : Int32)) (C := RX1) (T := TX1) (N := 5) hx hb hts hin_X1 tyX1 tyX1_ok nmX1 hown hK hS (by omega) (e_net (k := k) hk) rfl 1 (by decide) hk_f34 rfl rfl rfl rfl (Nat.le_of_ble_eq_true rfl) (fun d hd h => eo d hd (by rw [own_m hk]; exact h)) (e_netm (k := k) hk) dX1_empty_16 (fun H locs hS => ?_)
  obtain ⟨σ3, eσ3⟩ : ∃ t : Sg, t = pI σ2 (5 + 2 * k) (0 : Int32) := ⟨_, rfl⟩
  rw [← eσ3] at hS
  have hB := vl_at eσ3 hB
  refine lv_aload_n hx hb dX1_empty_19 rfl (lv_at hl 0 rfl) ?_
  refine r_get (v := .ref (ad (4 + 4 * k))) (C := RX1) (T := TX1) (N := 5) hx hb hts hin_X1 hown hK hS (by omega) (e_net (k := k) hk) rfl 2 (by decide) hk_f15 rfl rfl dX1_empty_20 ?_
  refine lv_iconst (v := (0 : Int32)) hx hb dX1_empty_23 (by decide) ?_
  obtain ⟨t4, ht4, hB⟩ := bi_at hB
  refine r_Sv ⟨hx, hb, hml, hown, hts⟩ (c_J7_fill_53178 l dC dI ad cA σ3 (4 + 4 * k) (by rw [lenA_w hk]; decide) (0 : Int32) t4 ht4) (va_cwS 2 hts gX1_empty_J7_fill_53178 rfl rfl rfl (by decide +kernel) ⟨Nat.le_of_ble_eq_true rfl, Nat.le_of_ble_eq_true rfl⟩) hK hN hS rfl hl.1 rfl (Nat.le_of_ble_eq_true rfl) dX1_empty_24 ⟨Nat.le_refl _, Nat.le_refl _⟩ (fun H locs hS => ?_)
  subst hQ
  exact r_vret hx hb hr hK hS hB hlocks dX1_empty_27
set_option maxHeartbeats 4000000 in
set_option maxRecDepth 100000 in
theorem c_X4_letterAt (l : Launch) (dC : Nat → ClassId) (dI : Nat → Nat → Nat) (ad : Nat → Nat) (cA : Nat → ClassId) (σ : Sg) (a1 : Int32) (z : Int32) (hB : f_X4_letterAt σ a1 = some z) : Ki l dC dI ad cA yX4_letterAt wsX4_letterAt 0 0 [.ref (ad 1), .int a1] σ (z, σ) := by
  refine mk_i (cc := cX4_letterAt) (maxL := 2) (ret := (some .int)) (by decide) rfl (Nat.le_of_ble_eq_true rfl) ?_
  intro p e s m args below meth c Q H locs ls ⟨hx, hb, hr, hml, hown, hts, hlocks, hK, hN⟩ hQ hS hl
  have hown : s.vm.findClass RX4 = some m.cls := hown
  have hl : lv_has ls 2 [(0, .ref (ad 1)), (1, .int a1)] := hl
  have hk_f15 := hts (.fieldLink RX4 15 "ChanceNets$Text" "length" "I") (by decide +kernel)
  have hin_X4 : ∀ w ∈ u_ws RX4 TX4 4, w ∈ wsX4_letterAt := by decide +kernel
  have hk_f9 := hts (.fieldLink RX4 9 "ChanceNets$Text" "letters" "[I") (by decide +kernel)
  unfold f_X4_letterAt at hB
  refine lv_iload_n hx hb dX4_letterAt_0 rfl (lv_at hl 1 rfl) ?_
  refine lv_if_lt (tgt := 21) hx hb dX4_letterAt_1 (by decide) (fun c1 => ?_) (fun c1 => ?_)
  · have hB := it_t c1 hB
    refine lv_iconst (v := (-1 : Int32)) hx hb dX4_letterAt_21 (by decide) ?_
    subst hQ
    exact r_iret hx hb hr hK hS (pz hB) hlocks dX4_letterAt_22
  · have hB := it_f c1 hB
    refine lv_iload_n hx hb dX4_letterAt_4 rfl (lv_at hl 1 rfl) ?_
    refine lv_aload_n hx hb dX4_letterAt_5 rfl (lv_at hl 0 rfl) ?_
    refine r_get (v := .int (gI σ 1)) (C := RX4) (T := TX4) (N := 4) hx hb hts hin_X4 hown hK hS (by decide) e_1 rfl 1 (by decide) hk_f15 rfl rfl dX4_letterAt_6 ?_
    refine lv_icmp_ge (tgt := 21) hx hb dX4_letterAt_9 (by decide) (fun c2 => ?_) (fun c2 => ?_)
    · have hB := it_t c2 hB
      refine lv_iconst (v := (-1 : Int32)) hx hb dX4_letterAt_21 (by decide) ?_
      subst hQ
      exact r_iret hx hb hr hK hS (pz hB) hlocks dX4_letterAt_22
    · have hB := it_f c2 hB
      refine lv_aload_n hx hb dX4_letterAt_12 rfl (lv_at hl 0 rfl) ?_
      refine r_get (v := .ref (ad 2)) (C := RX4) (T := TX4) (N := 4) hx hb hts hin_X4 hown hK hS (by decide) e_1 rfl 0 (by decide) hk_f9 rfl rfl dX4_letterAt_13 ?_
      refine lv_iload_n hx hb dX4_letterAt_16 rfl (lv_at hl 1 rfl) ?_
      obtain ⟨h3, hB⟩ := gd_at hB
      refine r_iald hx hb hK hS h3 dX4_letterAt_17 ?_
      refine lv_goto (tgt := 22) hx hb dX4_letterAt_18 (by decide) ?_
      subst hQ
      exact r_iret hx hb hr hK hS (pz hB) hlocks dX4_letterAt_22
set_option maxHeartbeats 4000000 in
set_option maxRecDepth 100000 in
theorem c_X4_skipBlanks (l : Launch) (dC : Nat → ClassId) (dI : Nat → Nat → Nat) (ad : Nat → Nat) (cA : Nat → ClassId) (σ : Sg)  (z : Sg) (hB : f_X4_skipBlanks σ = some z) : Kv l dC dI ad cA yX4_skipBlanks wsX4_skipBlanks 1 21 [.ref (ad 1)] σ z := by
  refine mk_v (cc := cX4_skipBlanks) (maxL := 1) (ret := none) (by decide) rfl (Nat.le_of_ble_eq_true rfl) ?_
  intro p e s m args below meth c Q H locs ls ⟨hx, hb, hr, hml, hown, hts, hlocks, hK, hN⟩ hQ hS hl
  have hown : s.vm.findClass RX4 = some m.cls := hown
  have hl : lv_has ls 1 [(0, .ref (ad 1))] := hl
  have hk_f19 := hts (.fieldLink RX4 19 "ChanceNets$Text" "place" "I") (by decide +kernel)
  have hin_X4 : ∀ w ∈ u_ws RX4 TX4 4, w ∈ wsX4_skipBlanks := by decide +kernel
  have hk_f15 := hts (.fieldLink RX4 15 "ChanceNets$Text" "length" "I") (by decide +kernel)
  unfold f_X4_skipBlanks at hB
  obtain ⟨t7, ht7, hB⟩ := bi_at hB
  refine wl_W (body := fun a => f_X4_skipBlanks_B0 a) (Hd := fun a : Sg => ∀ (H : Heap) (locs : List Loc) (ls : Array Slot), ST dC dI ad cA s a H locs → lv_has ls 1 [(0, .ref (ad 1))] → W p l e (RM 1 21) s m args below meth c H locs 0 0 Q (F0 m 0 ls [])) (Ex := fun b : Sg => ∀ (H : Heap) (locs : List Loc) (ls : Array Slot), ST dC dI ad cA s b H locs → lv_has ls 1 [] → W p l e (RM 1 21) s m args below meth c H locs 0 0 Q (F0 m 37 ls [])) ?_ FU _ t7 ht7 ?_ H locs ls hS (lv_sub hl [0] rfl)
  · intro a r0 hB hI0 hE0 H locs ls hS hl
    obtain ⟨σ1, rfl⟩ : ∃ y, y = a := ⟨_, rfl⟩
    have hB : f_X4_skipBlanks_B0 σ1 = some r0 := hB
    unfold f_X4_skipBlanks_B0 at hB
    have hS : ST dC dI ad cA s σ1 H locs := hS
    have hl : lv_has ls 1 [(0, .ref (ad 1))] := hl
    show W p l e (RM 1 21) s m args below meth c H locs 0 0 Q (F0 m 0 ls [])
    refine lv_aload_n hx hb dX4_skipBlanks_0 rfl (lv_at hl 0 rfl) ?_
    refine r_get (v := .int (gI σ1 2)) (C := RX4) (T := TX4) (N := 4) hx hb hts hin_X4 hown hK hS (by decide) e_1 rfl 2 (by decide) hk_f19 rfl rfl dX4_skipBlanks_1 ?_
    refine lv_aload_n hx hb dX4_skipBlanks_4 rfl (lv_at hl 0 rfl) ?_
    refine r_get (v := .int (gI σ1 1)) (C := RX4) (T := TX4) (N := 4) hx hb hts hin_X4 hown hK hS (by decide) e_1 rfl 1 (by decide) hk_f15 rfl rfl dX4_skipBlanks_5 ?_
    refine lv_icmp_ge (tgt := 37) hx hb dX4_skipBlanks_8 (by decide) (fun c2 => ?_) (fun c2 => ?_)
    · have hB := it_t c2 hB
      exact hE0 _ (Option.some.inj hB).symm H locs ls hS (lv_sub hl [] rfl)
    · have hB := it_f c2 hB
      refine lv_aload_n hx hb dX4_skipBlanks_11 rfl (lv_at hl 0 rfl) ?_
      refine lv_aload_n hx hb dX4_skipBlanks_12 rfl (lv_at hl 0 rfl) ?_
      refine r_get (v := .int (gI σ1 2)) (C := RX4) (T := TX4) (N := 4) hx hb hts hin_X4 hown hK hS (by decide) e_1 rfl 2 (by decide) hk_f19 rfl rfl dX4_skipBlanks_13 ?_
      obtain ⟨t3, ht3, hB⟩ := bi_at hB
      refine r_ViP ⟨hx, hb, hml, hown, hts⟩ (c_X4_letterAt l dC dI ad cA σ1 (gI σ1 2) t3 ht3) (cwV 1 hts gX4_skipBlanks_X4_letterAt rfl rfl rfl (by decide +kernel) ⟨Nat.le_of_ble_eq_true rfl, Nat.le_of_ble_eq_true rfl⟩) hK hN hS (by decide) e_1 rfl rfl hl.1 rfl (Nat.le_of_ble_eq_true rfl) dX4_skipBlanks_16 ⟨Nat.le_refl _, Nat.le_refl _⟩ (fun H locs hS => ?_)
      refine lv_bipush (v := (32 : Int32)) hx hb dX4_skipBlanks_19 (by decide) ?_
      refine lv_icmp_ne (tgt := 37) hx hb dX4_skipBlanks_21 (by decide) (fun c4 => ?_) (fun c4 => ?_)
      · have hB := it_f c4 hB
        exact hE0 _ (Option.some.inj hB).symm H locs ls hS (lv_sub hl [] rfl)
      · have hB := it_t c4 hB
        refine lv_aload_n hx hb dX4_skipBlanks_24 rfl (lv_at hl 0 rfl) ?_
        refine lv_dup hx hb dX4_skipBlanks_25 rfl ?_
        refine r_get (v := .int (gI σ1 2)) (C := RX4) (T := TX4) (N := 4) hx hb hts hin_X4 hown hK hS (by decide) e_1 rfl 2 (by decide) hk_f19 rfl rfl dX4_skipBlanks_26 ?_
        refine lv_iconst (v := (1 : Int32)) hx hb dX4_skipBlanks_29 (by decide) ?_
        refine lv_iadd hx hb dX4_skipBlanks_30 ?_
        refine lv_topi (fun x5 ex5 => ?_)
        have hB := vl_at ex5 hB
        refine r_put (σ' := pI σ1 2 x5) (v := .int x5) (C := RX4) (T := TX4) (N := 4) hx hb hts hin_X4 tyX4 tyX4_ok nmX4 hown hK hS (by decide) e_1 rfl 2 (by decide) hk_f19 rfl rfl rfl rfl (Nat.le_of_ble_eq_true rfl) (fun d hd h => eo d hd h) rfl dX4_skipBlanks_31 (fun H locs hS => ?_)
        obtain ⟨σ6, eσ6⟩ : ∃ t : Sg, t = pI σ1 2 x5 := ⟨_, rfl⟩
        rw [← eσ6] at hS
        have hB := vl_at eσ6 hB
        refine lv_goto (tgt := 0) hx hb dX4_skipBlanks_34 (by decide) ?_
        exact hI0 _ (Option.some.inj hB).symm H locs ls hS (lv_sub hl [0] rfl)
  · skip
    intro H locs ls hS hl
    have hS : ST dC dI ad cA s t7 H locs := hS
    have hl : lv_has ls 1 [] := hl
    show W p l e (RM 1 21) s m args below meth c H locs 0 0 Q (F0 m 37 ls [])
    subst hQ
    exact r_vret hx hb hr hK hS hB hlocks dX4_skipBlanks_37
set_option maxHeartbeats 4000000 in
set_option maxRecDepth 100000 in
theorem c_X4_isFigure (l : Launch) (dC : Nat → ClassId) (dI : Nat → Nat → Nat) (ad : Nat → Nat) (cA : Nat → ClassId) (σ : Sg) (a1 : Int32) (z : Int32) (hB : f_X4_isFigure a1 = some z) : Ki l dC dI ad cA yX4_isFigure wsX4_isFigure 0 0 [.int a1] σ (z, σ) := by
  refine mk_i (cc := cX4_isFigure) (maxL := 1) (ret := (some .boolean)) (by decide) rfl (Nat.le_of_ble_eq_true rfl) ?_
  intro p e s m args below meth c Q H locs ls ⟨hx, hb, hr, hml, hown, hts, hlocks, hK, hN⟩ hQ hS hl
  have hown : s.vm.findClass RX4 = some m.cls := hown
  have hl : lv_has ls 1 [(0, .int a1)] := hl
  unfold f_X4_isFigure at hB
  refine lv_iload_n hx hb dX4_isFigure_0 rfl (lv_at hl 0 rfl) ?_
  refine lv_bipush (v := (48 : Int32)) hx hb dX4_isFigure_1 (by decide) ?_
  refine lv_icmp_lt (tgt := 16) hx hb dX4_isFigure_3 (by decide) (fun c1 => ?_) (fun c1 => ?_)
  · have hB := it_t c1 hB
    refine lv_iconst (v := (0 : Int32)) hx hb dX4_isFigure_16 (by decide) ?_
    subst hQ
    exact r_zret hx hb hr hK hS rfl (pz hB) hlocks dX4_isFigure_17
  · have hB := it_f c1 hB
    refine lv_iload_n hx hb dX4_isFigure_6 rfl (lv_at hl 0 rfl) ?_
    refine lv_bipush (v := (57 : Int32)) hx hb dX4_isFigure_7 (by decide) ?_
    refine lv_icmp_gt (tgt := 16) hx hb dX4_isFigure_9 (by decide) (fun c2 => ?_) (fun c2 => ?_)
    · have hB := it_t c2 hB
      refine lv_iconst (v := (0 : Int32)) hx hb dX4_isFigure_16 (by decide) ?_
      subst hQ
      exact r_zret hx hb hr hK hS rfl (pz hB) hlocks dX4_isFigure_17
    · have hB := it_f c2 hB
      refine lv_iconst (v := (1 : Int32)) hx hb dX4_isFigure_12 (by decide) ?_
      refine lv_goto (tgt := 17) hx hb dX4_isFigure_13 (by decide) ?_
      subst hQ
      exact r_zret hx hb hr hK hS rfl (pz hB) hlocks dX4_isFigure_17
set_option maxHeartbeats 4000000 in
set_option maxRecDepth 100000 in
theorem c_X4_numberAhead (l : Launch) (dC : Nat → ClassId) (dI : Nat → Nat → Nat) (ad : Nat → Nat) (cA : Nat → ClassId) (σ : Sg) (a1 : Int32) (a2 : Int32) (z : Int32 × Sg) (hB : f_X4_numberAhead σ a1 a2 = some z) : Ki l dC dI ad cA yX4_numberAhead wsX4_numberAhead 2 41 [.ref (ad 1), .int a1, .int a2] σ z := by
  refine mk_i (cc := cX4_numberAhead) (maxL := 4) (ret := (some .int)) (by decide) rfl (Nat.le_of_ble_eq_true rfl) ?_
  intro p e s m args below meth c Q H locs ls ⟨hx, hb, hr, hml, hown, hts, hlocks, hK, hN⟩ hQ hS hl
  have hown : s.vm.findClass RX4 = some m.cls := hown
  have hl : lv_has ls 4 [(0, .ref (ad 1)), (1, .int a1), (2, .int a2)] := hl
  have hk_f19 := hts (.fieldLink RX4 19 "ChanceNets$Text" "place" "I") (by decide +kernel)
  have hin_X4 : ∀ w ∈ u_ws RX4 TX4 4, w ∈ wsX4_numberAhead := by decide +kernel
  unfold f_X4_numberAhead at hB
  refine lv_aload_n hx hb dX4_numberAhead_0 rfl (lv_at hl 0 rfl) ?_
  obtain ⟨t1, ht1, hB⟩ := bi_at hB
  refine r_Vv ⟨hx, hb, hml, hown, hts⟩ (c_X4_skipBlanks l dC dI ad cA σ t1 ht1) (cwV 0 hts gX4_numberAhead_X4_skipBlanks rfl rfl rfl (by decide +kernel) ⟨Nat.le_of_ble_eq_true rfl, Nat.le_of_ble_eq_true rfl⟩) hK hN hS (by decide) e_1 rfl rfl hl.1 rfl (Nat.le_of_ble_eq_true rfl) dX4_numberAhead_1 ⟨Nat.le_refl _, Nat.le_refl _⟩ (fun H locs hS => ?_)
  refine lv_aload_n hx hb dX4_numberAhead_4 rfl (lv_at hl 0 rfl) ?_
  refine lv_aload_n hx hb dX4_numberAhead_5 rfl (lv_at hl 0 rfl) ?_
  refine r_get (v := .int (gI t1 2)) (C := RX4) (T := TX4) (N := 4) hx hb hts hin_X4 hown hK hS (by decide) e_1 rfl 2 (by decide) hk_f19 rfl rfl dX4_numberAhead_6 ?_
  obtain ⟨t2, ht2, hB⟩ := bi_at hB
  refine r_ViP ⟨hx, hb, hml, hown, hts⟩ (c_X4_letterAt l dC dI ad cA t1 (gI t1 2) t2 ht2) (cwV 1 hts gX4_numberAhead_X4_letterAt rfl rfl rfl (by decide +kernel) ⟨Nat.le_of_ble_eq_true rfl, Nat.le_of_ble_eq_true rfl⟩) hK hN hS (by decide) e_1 rfl rfl hl.1 rfl (Nat.le_of_ble_eq_true rfl) dX4_numberAhead_9 ⟨Nat.le_refl _, Nat.le_refl _⟩ (fun H locs hS => ?_)
  obtain ⟨t3, ht3, hB⟩ := bi_at hB
  refine r_SiP ⟨hx, hb, hml, hown, hts⟩ (c_X4_isFigure l dC dI ad cA t1 t2 t3 ht3) (va_cwS 1 hts gX4_numberAhead_X4_isFigure rfl rfl rfl (by decide +kernel) ⟨Nat.le_of_ble_eq_true rfl, Nat.le_of_ble_eq_true rfl⟩) hK hN hS rfl hl.1 rfl (Nat.le_of_ble_eq_true rfl) dX4_numberAhead_12 ⟨Nat.le_refl _, Nat.le_refl _⟩ (fun H locs hS => ?_)
  refine lv_if_eq (tgt := 34) hx hb dX4_numberAhead_15 (by decide) (fun c4 => ?_) (fun c4 => ?_)
  · have hB := it_t c4 hB
    refine lv_iconst (v := (-1 : Int32)) hx hb dX4_numberAhead_34 (by decide) ?_
    subst hQ
    exact r_iret hx hb hr hK hS hB hlocks dX4_numberAhead_35
  · have hB := it_f c4 hB
    refine lv_aload_n hx hb dX4_numberAhead_18 rfl (lv_at hl 0 rfl) ?_
    refine lv_aload_n hx hb dX4_numberAhead_19 rfl (lv_at hl 0 rfl) ?_
    refine r_get (v := .int (gI t1 2)) (C := RX4) (T := TX4) (N := 4) hx hb hts hin_X4 hown hK hS (by decide) e_1 rfl 2 (by decide) hk_f19 rfl rfl dX4_numberAhead_20 ?_
    refine lv_iconst (v := (1 : Int32)) hx hb dX4_numberAhead_23 (by decide) ?_
    refine lv_iadd hx hb dX4_numberAhead_24 ?_
    obtain ⟨t5, ht5, hB⟩ := bi_at hB
    refine r_ViP ⟨hx, hb, hml, hown, hts⟩ (c_X4_letterAt l dC dI ad cA t1 ((gI t1 2) + (1 : Int32)) t5 ht5) (cwV 1 hts gX4_numberAhead_X4_letterAt rfl rfl rfl (by decide +kernel) ⟨Nat.le_of_ble_eq_true rfl, Nat.le_of_ble_eq_true rfl⟩) hK hN hS (by decide) e_1 rfl rfl hl.1 rfl (Nat.le_of_ble_eq_true rfl) dX4_numberAhead_25 ⟨Nat.le_refl _, Nat.le_refl _⟩ (fun H locs hS => ?_)
    obtain ⟨t6, ht6, hB⟩ := bi_at hB
    refine r_SiP ⟨hx, hb, hml, hown, hts⟩ (c_X4_isFigure l dC dI ad cA t1 t5 t6 ht6) (va_cwS 1 hts gX4_numberAhead_X4_isFigure rfl rfl rfl (by decide +kernel) ⟨Nat.le_of_ble_eq_true rfl, Nat.le_of_ble_eq_true rfl⟩) hK hN hS rfl hl.1 rfl (Nat.le_of_ble_eq_true rfl) dX4_numberAhead_28 ⟨Nat.le_refl _, Nat.le_refl _⟩ (fun H locs hS => ?_)
    refine lv_if_eq (tgt := 36) hx hb dX4_numberAhead_31 (by decide) (fun c7 => ?_) (fun c7 => ?_)
    · have hB := it_t c7 hB
      refine lv_aload_n hx hb dX4_numberAhead_36 rfl (lv_at hl 0 rfl) ?_
      refine lv_aload_n hx hb dX4_numberAhead_37 rfl (lv_at hl 0 rfl) ?_
      refine r_get (v := .int (gI t1 2)) (C := RX4) (T := TX4) (N := 4) hx hb hts hin_X4 hown hK hS (by decide) e_1 rfl 2 (by decide) hk_f19 rfl rfl dX4_numberAhead_38 ?_
      obtain ⟨t8, ht8, hB⟩ := bi_at hB
      refine r_ViP ⟨hx, hb, hml, hown, hts⟩ (c_X4_letterAt l dC dI ad cA t1 (gI t1 2) t8 ht8) (cwV 1 hts gX4_numberAhead_X4_letterAt rfl rfl rfl (by decide +kernel) ⟨Nat.le_of_ble_eq_true rfl, Nat.le_of_ble_eq_true rfl⟩) hK hN hS (by decide) e_1 rfl rfl hl.1 rfl (Nat.le_of_ble_eq_true rfl) dX4_numberAhead_41 ⟨Nat.le_refl _, Nat.le_refl _⟩ (fun H locs hS => ?_)
      refine lv_bipush (v := (48 : Int32)) hx hb dX4_numberAhead_44 (by decide) ?_
      refine lv_isub hx hb dX4_numberAhead_46 ?_
      refine lv_topi (fun x9 ex9 => ?_)
      have hB := vl_at ex9 hB
      refine lv_istore_n (lv' := [(3, .int x9), (0, .ref (ad 1)), (1, .int a1), (2, .int a2)]) hx hb dX4_numberAhead_47 rfl hl (by decide) rfl (fun ls hl => ?_)
      refine lv_iload_n hx hb dX4_numberAhead_48 rfl (lv_at hl 0 rfl) ?_
      refine lv_iload_n hx hb dX4_numberAhead_49 rfl (lv_at hl 2 rfl) ?_
      refine lv_icmp_lt (tgt := 62) hx hb dX4_numberAhead_50 (by decide) (fun c10 => ?_) (fun c10 => ?_)
      · have hB := it_t c10 hB
        refine lv_iconst (v := (-1 : Int32)) hx hb dX4_numberAhead_62 (by decide) ?_
        subst hQ
        exact r_iret hx hb hr hK hS hB hlocks dX4_numberAhead_63
      · have hB := it_f c10 hB
        refine lv_iload_n hx hb dX4_numberAhead_53 rfl (lv_at hl 0 rfl) ?_
        refine lv_iload_n hx hb dX4_numberAhead_54 rfl (lv_at hl 3 rfl) ?_
        refine lv_icmp_gt (tgt := 62) hx hb dX4_numberAhead_55 (by decide) (fun c11 => ?_) (fun c11 => ?_)
        · have hB := it_t c11 hB
          refine lv_iconst (v := (-1 : Int32)) hx hb dX4_numberAhead_62 (by decide) ?_
          subst hQ
          exact r_iret hx hb hr hK hS hB hlocks dX4_numberAhead_63
        · have hB := it_f c11 hB
          refine lv_iload_n hx hb dX4_numberAhead_58 rfl (lv_at hl 0 rfl) ?_
          refine lv_goto (tgt := 63) hx hb dX4_numberAhead_59 (by decide) ?_
          subst hQ
          exact r_iret hx hb hr hK hS hB hlocks dX4_numberAhead_63
    · have hB := it_f c7 hB
      refine lv_iconst (v := (-1 : Int32)) hx hb dX4_numberAhead_34 (by decide) ?_
      subst hQ
      exact r_iret hx hb hr hK hS hB hlocks dX4_numberAhead_35
set_option maxHeartbeats 4000000 in
set_option maxRecDepth 100000 in
theorem c_X4_passesEnd (l : Launch) (dC : Nat → ClassId) (dI : Nat → Nat → Nat) (ad : Nat → Nat) (cA : Nat → ClassId) (σ : Sg)  (z : Int32 × Sg) (hB : f_X4_passesEnd σ = some z) : Ki l dC dI ad cA yX4_passesEnd wsX4_passesEnd 2 41 [.ref (ad 1)] σ z := by
  refine mk_i (cc := cX4_passesEnd) (maxL := 1) (ret := (some .boolean)) (by decide) rfl (Nat.le_of_ble_eq_true rfl) ?_
  intro p e s m args below meth c Q H locs ls ⟨hx, hb, hr, hml, hown, hts, hlocks, hK, hN⟩ hQ hS hl
  have hown : s.vm.findClass RX4 = some m.cls := hown
  have hl : lv_has ls 1 [(0, .ref (ad 1))] := hl
  have hk_f19 := hts (.fieldLink RX4 19 "ChanceNets$Text" "place" "I") (by decide +kernel)
  have hin_X4 : ∀ w ∈ u_ws RX4 TX4 4, w ∈ wsX4_passesEnd := by decide +kernel
  unfold f_X4_passesEnd at hB
  refine lv_aload_n hx hb dX4_passesEnd_0 rfl (lv_at hl 0 rfl) ?_
  obtain ⟨t1, ht1, hB⟩ := bi_at hB
  refine r_Vv ⟨hx, hb, hml, hown, hts⟩ (c_X4_skipBlanks l dC dI ad cA σ t1 ht1) (cwV 0 hts gX4_passesEnd_X4_skipBlanks rfl rfl rfl (by decide +kernel) ⟨Nat.le_of_ble_eq_true rfl, Nat.le_of_ble_eq_true rfl⟩) hK hN hS (by decide) e_1 rfl rfl hl.1 rfl (Nat.le_of_ble_eq_true rfl) dX4_passesEnd_1 ⟨Nat.le_refl _, Nat.le_refl _⟩ (fun H locs hS => ?_)
  refine lv_aload_n hx hb dX4_passesEnd_4 rfl (lv_at hl 0 rfl) ?_
  refine lv_aload_n hx hb dX4_passesEnd_5 rfl (lv_at hl 0 rfl) ?_
  refine r_get (v := .int (gI t1 2)) (C := RX4) (T := TX4) (N := 4) hx hb hts hin_X4 hown hK hS (by decide) e_1 rfl 2 (by decide) hk_f19 rfl rfl dX4_passesEnd_6 ?_
  obtain ⟨t2, ht2, hB⟩ := bi_at hB
  refine r_ViP ⟨hx, hb, hml, hown, hts⟩ (c_X4_letterAt l dC dI ad cA t1 (gI t1 2) t2 ht2) (cwV 1 hts gX4_passesEnd_X4_letterAt rfl rfl rfl (by decide +kernel) ⟨Nat.le_of_ble_eq_true rfl, Nat.le_of_ble_eq_true rfl⟩) hK hN hS (by decide) e_1 rfl rfl hl.1 rfl (Nat.le_of_ble_eq_true rfl) dX4_passesEnd_9 ⟨Nat.le_refl _, Nat.le_refl _⟩ (fun H locs hS => ?_)
  refine lv_bipush (v := (59 : Int32)) hx hb dX4_passesEnd_12 (by decide) ?_
  refine lv_icmp_eq (tgt := 19) hx hb dX4_passesEnd_14 (by decide) (fun c3 => ?_) (fun c3 => ?_)
  · have hB := it_t c3 hB
    refine lv_aload_n hx hb dX4_passesEnd_19 rfl (lv_at hl 0 rfl) ?_
    refine lv_dup hx hb dX4_passesEnd_20 rfl ?_
    refine r_get (v := .int (gI t1 2)) (C := RX4) (T := TX4) (N := 4) hx hb hts hin_X4 hown hK hS (by decide) e_1 rfl 2 (by decide) hk_f19 rfl rfl dX4_passesEnd_21 ?_
    refine lv_iconst (v := (1 : Int32)) hx hb dX4_passesEnd_24 (by decide) ?_
    refine lv_iadd hx hb dX4_passesEnd_25 ?_
    refine lv_topi (fun x4 ex4 => ?_)
    have hB := vl_at ex4 hB
    refine r_put (σ' := pI t1 2 x4) (v := .int x4) (C := RX4) (T := TX4) (N := 4) hx hb hts hin_X4 tyX4 tyX4_ok nmX4 hown hK hS (by decide) e_1 rfl 2 (by decide) hk_f19 rfl rfl rfl rfl (Nat.le_of_ble_eq_true rfl) (fun d hd h => eo d hd h) rfl dX4_passesEnd_26 (fun H locs hS => ?_)
    obtain ⟨σ5, eσ5⟩ : ∃ t : Sg, t = pI t1 2 x4 := ⟨_, rfl⟩
    rw [← eσ5] at hS
    have hB := vl_at eσ5 hB
    refine lv_iconst (v := (1 : Int32)) hx hb dX4_passesEnd_29 (by decide) ?_
    subst hQ
    exact r_zret hx hb hr hK hS rfl hB hlocks dX4_passesEnd_30
  · have hB := it_f c3 hB
    refine lv_iconst (v := (0 : Int32)) hx hb dX4_passesEnd_17 (by decide) ?_
    subst hQ
    exact r_zret hx hb hr hK hS rfl hB hlocks dX4_passesEnd_18
set_option maxHeartbeats 4000000 in
set_option maxRecDepth 100000 in
theorem c_X4_tellsNodes (l : Launch) (dC : Nat → ClassId) (dI : Nat → Nat → Nat) (ad : Nat → Nat) (cA : Nat → ClassId) (σ : Sg) (kn : Nat) (hkn : kn < 5) (z : Int32 × Sg) (hB : f_X4_tellsNodes σ kn = some z) : Ki l dC dI ad cA yX4_tellsNodes wsX4_tellsNodes 3 64 [.ref (ad 1), .ref (ad (3 + 4 * kn))] σ z := by
  refine mk_i (cc := cX4_tellsNodes) (maxL := 3) (ret := (some .boolean)) (by decide) rfl (Nat.le_of_ble_eq_true rfl) ?_
  intro p e s m args below meth c Q H locs ls ⟨hx, hb, hr, hml, hown, hts, hlocks, hK, hN⟩ hQ hS hl
  have hown : s.vm.findClass RX4 = some m.cls := hown
  have hl : lv_has ls 3 [(0, .ref (ad 1)), (1, .ref (ad (3 + 4 * kn)))] := hl
  have hk_f19 := hts (.fieldLink RX4 19 "ChanceNets$Text" "place" "I") (by decide +kernel)
  have hin_X4 : ∀ w ∈ u_ws RX4 TX4 4, w ∈ wsX4_tellsNodes := by decide +kernel
  unfold f_X4_tellsNodes at hB
  refine lv_aload_n hx hb dX4_tellsNodes_0 rfl (lv_at hl 0 rfl) ?_
  refine lv_iconst (v := (2 : Int32)) hx hb dX4_tellsNodes_1 (by decide) ?_
  refine lv_bipush (v := (6 : Int32)) hx hb dX4_tellsNodes_2 (by decide) ?_
  obtain ⟨t1, ht1, hB⟩ := bi_at hB
  refine r_Vi ⟨hx, hb, hml, hown, hts⟩ (c_X4_numberAhead l dC dI ad cA σ (2 : Int32) (6 : Int32) t1 ht1) (cwV 2 hts gX4_tellsNodes_X4_numberAhead rfl rfl rfl (by decide +kernel) ⟨Nat.le_of_ble_eq_true rfl, Nat.le_of_ble_eq_true rfl⟩) hK hN hS (by decide) e_1 rfl rfl hl.1 rfl (Nat.le_of_ble_eq_true rfl) dX4_tellsNodes_4 ⟨Nat.le_refl _, Nat.le_refl _⟩ (fun H locs hS => ?_)
  refine lv_istore_n (lv' := [(2, .int t1.1), (0, .ref (ad 1)), (1, .ref (ad (3 + 4 * kn)))]) hx hb dX4_tellsNodes_7 rfl hl (by decide) rfl (fun ls hl => ?_)
  refine lv_iload_n hx hb dX4_tellsNodes_8 rfl (lv_at hl 0 rfl) ?_
  refine lv_iconst (v := (-1 : Int32)) hx hb dX4_tellsNodes_9 (by decide) ?_
  refine lv_icmp_ne (tgt := 15) hx hb dX4_tellsNodes_10 (by decide) (fun c2 => ?_) (fun c2 => ?_)
  · have hB := it_f c2 hB
    refine lv_aload_n hx hb dX4_tellsNodes_15 rfl (lv_at hl 1 rfl) ?_
    refine lv_dup hx hb dX4_tellsNodes_16 rfl ?_
    refine r_get (v := .int (gI t1.2 2)) (C := RX4) (T := TX4) (N := 4) hx hb hts hin_X4 hown hK hS (by decide) e_1 rfl 2 (by decide) hk_f19 rfl rfl dX4_tellsNodes_17 ?_
    refine lv_iconst (v := (1 : Int32)) hx hb dX4_tellsNodes_20 (by decide) ?_
    refine lv_iadd hx hb dX4_tellsNodes_21 ?_
    refine lv_topi (fun x3 ex3 => ?_)
    have hB := vl_at ex3 hB
    refine r_put (σ' := pI t1.2 2 x3) (v := .int x3) (C := RX4) (T := TX4) (N := 4) hx hb hts hin_X4 tyX4 tyX4_ok nmX4 hown hK hS (by decide) e_1 rfl 2 (by decide) hk_f19 rfl rfl rfl rfl (Nat.le_of_ble_eq_true rfl) (fun d hd h => eo d hd h) rfl dX4_tellsNodes_22 (fun H locs hS => ?_)
    obtain ⟨σ4, eσ4⟩ : ∃ t : Sg, t = pI t1.2 2 x3 := ⟨_, rfl⟩
    rw [← eσ4] at hS
    have hB := vl_at eσ4 hB
    refine lv_aload_n hx hb dX4_tellsNodes_25 rfl (lv_at hl 2 rfl) ?_
    refine lv_iload_n hx hb dX4_tellsNodes_26 rfl (lv_at hl 0 rfl) ?_
    obtain ⟨t5, ht5, hB⟩ := bi_at hB
    refine r_Vv ⟨hx, hb, hml, hown, hts⟩ (c_X1_empty l dC dI ad cA σ4 kn hkn t1.1 t5 ht5) (cwV 1 hts gX4_tellsNodes_X1_empty rfl rfl rfl (by decide +kernel) ⟨Nat.le_of_ble_eq_true rfl, Nat.le_of_ble_eq_true rfl⟩) hK hN hS (by omega) (e_net (k := kn) hkn) rfl rfl hl.1 rfl (Nat.le_of_ble_eq_true rfl) dX4_tellsNodes_27 ⟨Nat.le_refl _, Nat.le_refl _⟩ (fun H locs hS => ?_)
    refine lv_aload_n hx hb dX4_tellsNodes_30 rfl (lv_at hl 1 rfl) ?_
    obtain ⟨t6, ht6, hB⟩ := bi_at hB
    refine r_Vi ⟨hx, hb, hml, hown, hts⟩ (c_X4_passesEnd l dC dI ad cA t5 t6 ht6) (cwV 0 hts gX4_tellsNodes_X4_passesEnd rfl rfl rfl (by decide +kernel) ⟨Nat.le_of_ble_eq_true rfl, Nat.le_of_ble_eq_true rfl⟩) hK hN hS (by decide) e_1 rfl rfl hl.1 rfl (Nat.le_of_ble_eq_true rfl) dX4_tellsNodes_31 ⟨Nat.le_refl _, Nat.le_refl _⟩ (fun H locs hS => ?_)
    obtain ⟨h7, hB⟩ := gd_at hB
    subst hQ
    exact r_zret hx hb hr hK hS (okZ_nar h7) hB hlocks dX4_tellsNodes_34
  · have hB := it_t c2 hB
    refine lv_iconst (v := (0 : Int32)) hx hb dX4_tellsNodes_13 (by decide) ?_
    subst hQ
    exact r_zret hx hb hr hK hS rfl hB hlocks dX4_tellsNodes_14
set_option maxHeartbeats 4000000 in
set_option maxRecDepth 100000 in
theorem c_X1_hasNode (l : Launch) (dC : Nat → ClassId) (dI : Nat → Nat → Nat) (ad : Nat → Nat) (cA : Nat → ClassId) (σ : Sg) (k : Nat) (hk : k < 5) (a1 : Int32) (z : Int32) (hB : f_X1_hasNode σ k a1 = some z) : Ki l dC dI ad cA yX1_hasNode wsX1_hasNode 0 0 [.ref (ad (3 + 4 * k)), .int a1] σ (z, σ) := by
  refine mk_i (cc := cX1_hasNode) (maxL := 2) (ret := (some .boolean)) (by decide) rfl (Nat.le_of_ble_eq_true rfl) ?_
  intro p e s m args below meth c Q H locs ls ⟨hx, hb, hr, hml, hown, hts, hlocks, hK, hN⟩ hQ hS hl
  have hown : s.vm.findClass RX1 = some m.cls := hown
  have hl : lv_has ls 2 [(0, .ref (ad (3 + 4 * k))), (1, .int a1)] := hl
  have hk_f9 := hts (.fieldLink RX1 9 "ChanceNets$Net" "nodes" "I") (by decide +kernel)
  have hin_X1 : ∀ w ∈ u_ws RX1 TX1 5, w ∈ wsX1_hasNode := by decide +kernel
  unfold f_X1_hasNode at hB
  refine lv_iload_n hx hb dX1_hasNode_0 rfl (lv_at hl 1 rfl) ?_
  refine lv_if_lt (tgt := 16) hx hb dX1_hasNode_1 (by decide) (fun c1 => ?_) (fun c1 => ?_)
  · have hB := it_t c1 hB
    refine lv_iconst (v := (0 : Int32)) hx hb dX1_hasNode_16 (by decide) ?_
    subst hQ
    exact r_zret hx hb hr hK hS rfl (pz hB) hlocks dX1_hasNode_17
  · have hB := it_f c1 hB
    refine lv_iload_n hx hb dX1_hasNode_4 rfl (lv_at hl 1 rfl) ?_
    refine lv_aload_n hx hb dX1_hasNode_5 rfl (lv_at hl 0 rfl) ?_
    refine r_get (v := .int (gI σ (4 + 2 * k))) (C := RX1) (T := TX1) (N := 5) hx hb hts hin_X1 hown hK hS (by omega) (e_net (k := k) hk) rfl 0 (by decide) hk_f9 rfl rfl dX1_hasNode_6 ?_
    refine lv_icmp_ge (tgt := 16) hx hb dX1_hasNode_9 (by decide) (fun c2 => ?_) (fun c2 => ?_)
    · have hB := it_t c2 hB
      refine lv_iconst (v := (0 : Int32)) hx hb dX1_hasNode_16 (by decide) ?_
      subst hQ
      exact r_zret hx hb hr hK hS rfl (pz hB) hlocks dX1_hasNode_17
    · have hB := it_f c2 hB
      refine lv_iconst (v := (1 : Int32)) hx hb dX1_hasNode_12 (by decide) ?_
      refine lv_goto (tgt := 17) hx hb dX1_hasNode_13 (by decide) ?_
      subst hQ
      exact r_zret hx hb hr hK hS rfl (pz hB) hlocks dX1_hasNode_17
set_option maxHeartbeats 4000000 in
set_option maxRecDepth 100000 in
theorem c_X1_widthAt (l : Launch) (dC : Nat → ClassId) (dI : Nat → Nat → Nat) (ad : Nat → Nat) (cA : Nat → ClassId) (σ : Sg) (k : Nat) (hk : k < 5) (a1 : Int32) (a2 : Int32) (z : Int32) (hB : f_X1_widthAt σ k a1 a2 = some z) : Ki l dC dI ad cA yX1_widthAt wsX1_widthAt 1 21 [.ref (ad (3 + 4 * k)), .int a1, .int a2] σ (z, σ) := by
  refine mk_i (cc := cX1_widthAt) (maxL := 3) (ret := (some .int)) (by decide) rfl (Nat.le_of_ble_eq_true rfl) ?_
  intro p e s m args below meth c Q H locs ls ⟨hx, hb, hr, hml, hown, hts, hlocks, hK, hN⟩ hQ hS hl
  have hown : s.vm.findClass RX1 = some m.cls := hown
  have hl : lv_has ls 3 [(0, .ref (ad (3 + 4 * k))), (1, .int a1), (2, .int a2)] := hl
  have hk_f15 := hts (.fieldLink RX1 15 "ChanceNets$Net" "widths" "[I") (by decide +kernel)
  have hin_X1 : ∀ w ∈ u_ws RX1 TX1 5, w ∈ wsX1_widthAt := by decide +kernel
  unfold f_X1_widthAt at hB
  refine lv_aload_n hx hb dX1_widthAt_0 rfl (lv_at hl 0 rfl) ?_
  refine lv_iload_n hx hb dX1_widthAt_1 rfl (lv_at hl 1 rfl) ?_
  obtain ⟨t1, ht1, hB⟩ := bi_at hB
  refine r_ViP ⟨hx, hb, hml, hown, hts⟩ (c_X1_hasNode l dC dI ad cA σ k hk a1 t1 ht1) (cwV 1 hts gX1_widthAt_X1_hasNode rfl rfl rfl (by decide +kernel) ⟨Nat.le_of_ble_eq_true rfl, Nat.le_of_ble_eq_true rfl⟩) hK hN hS (by omega) (e_net (k := k) hk) rfl rfl hl.1 rfl (Nat.le_of_ble_eq_true rfl) dX1_widthAt_2 ⟨Nat.le_refl _, Nat.le_refl _⟩ (fun H locs hS => ?_)
  refine lv_if_eq (tgt := 30) hx hb dX1_widthAt_5 (by decide) (fun c2 => ?_) (fun c2 => ?_)
  · have hB := it_t c2 hB
    refine lv_iconst (v := (0 : Int32)) hx hb dX1_widthAt_30 (by decide) ?_
    subst hQ
    exact r_iret hx hb hr hK hS (pz hB) hlocks dX1_widthAt_31
  · have hB := it_f c2 hB
    refine lv_aload_n hx hb dX1_widthAt_8 rfl (lv_at hl 0 rfl) ?_
    refine lv_iload_n hx hb dX1_widthAt_9 rfl (lv_at hl 2 rfl) ?_
    obtain ⟨t3, ht3, hB⟩ := bi_at hB
    refine r_ViP ⟨hx, hb, hml, hown, hts⟩ (c_X1_hasNode l dC dI ad cA σ k hk a2 t3 ht3) (cwV 1 hts gX1_widthAt_X1_hasNode rfl rfl rfl (by decide +kernel) ⟨Nat.le_of_ble_eq_true rfl, Nat.le_of_ble_eq_true rfl⟩) hK hN hS (by omega) (e_net (k := k) hk) rfl rfl hl.1 rfl (Nat.le_of_ble_eq_true rfl) dX1_widthAt_10 ⟨Nat.le_refl _, Nat.le_refl _⟩ (fun H locs hS => ?_)
    refine lv_if_eq (tgt := 30) hx hb dX1_widthAt_13 (by decide) (fun c4 => ?_) (fun c4 => ?_)
    · have hB := it_t c4 hB
      refine lv_iconst (v := (0 : Int32)) hx hb dX1_widthAt_30 (by decide) ?_
      subst hQ
      exact r_iret hx hb hr hK hS (pz hB) hlocks dX1_widthAt_31
    · have hB := it_f c4 hB
      refine lv_aload_n hx hb dX1_widthAt_16 rfl (lv_at hl 0 rfl) ?_
      refine r_get (v := .ref (ad (4 + 4 * k))) (C := RX1) (T := TX1) (N := 5) hx hb hts hin_X1 hown hK hS (by omega) (e_net (k := k) hk) rfl 2 (by decide) hk_f15 rfl rfl dX1_widthAt_17 ?_
      refine lv_iload_n hx hb dX1_widthAt_20 rfl (lv_at hl 1 rfl) ?_
      refine lv_bipush (v := (6 : Int32)) hx hb dX1_widthAt_21 (by decide) ?_
      refine lv_imul hx hb dX1_widthAt_23 ?_
      refine lv_iload_n hx hb dX1_widthAt_24 rfl (lv_at hl 2 rfl) ?_
      refine lv_iadd hx hb dX1_widthAt_25 ?_
      obtain ⟨h5, hB⟩ := gd_at hB
      refine r_iald hx hb hK hS (by rw [lenA_w hk]; exact h5) dX1_widthAt_26 ?_
      refine lv_goto (tgt := 31) hx hb dX1_widthAt_27 (by decide) ?_
      subst hQ
      exact r_iret hx hb hr hK hS (pz hB) hlocks dX1_widthAt_31
set_option maxHeartbeats 4000000 in
set_option maxRecDepth 100000 in
theorem c_X1_numberLines (l : Launch) (dC : Nat → ClassId) (dI : Nat → Nat → Nat) (ad : Nat → Nat) (cA : Nat → ClassId) (σ : Sg) (k : Nat) (hk : k < 5) (z : Sg) (hB : f_X1_numberLines σ k = some z) : Kv l dC dI ad cA yX1_numberLines wsX1_numberLines 0 0 [.ref (ad (3 + 4 * k))] σ z := by
  refine mk_v (cc := cX1_numberLines) (maxL := 3) (ret := none) (by decide) rfl (Nat.le_of_ble_eq_true rfl) ?_
  intro p e s m args below meth c Q H locs ls ⟨hx, hb, hr, hml, hown, hts, hlocks, hK, hN⟩ hQ hS hl
  have hown : s.vm.findClass RX1 = some m.cls := hown
  have hl : lv_has ls 3 [(0, .ref (ad (3 + 4 * k)))] := hl
  have hk_f34 := hts (.fieldLink RX1 34 "ChanceNets$Net" "lines" "I") (by decide +kernel)
  have hin_X1 : ∀ w ∈ u_ws RX1 TX1 5, w ∈ wsX1_numberLines := by decide +kernel
  have hk_f9 := hts (.fieldLink RX1 9 "ChanceNets$Net" "nodes" "I") (by decide +kernel)
  have hk_f15 := hts (.fieldLink RX1 15 "ChanceNets$Net" "widths" "[I") (by decide +kernel)
  have hk_f19 := hts (.fieldLink RX1 19 "ChanceNets$Net" "lows" "[I") (by decide +kernel)
  have hk_f22 := hts (.fieldLink RX1 22 "ChanceNets$Net" "highs" "[I") (by decide +kernel)
  unfold f_X1_numberLines at hB
  refine lv_aload_n hx hb dX1_numberLines_0 rfl (lv_at hl 0 rfl) ?_
  refine lv_iconst (v := (0 : Int32)) hx hb dX1_numberLines_1 (by decide) ?_
  refine r_put (σ' := pI σ (5 + 2 * k) (0 : Int32)) (v := .int (0 : Int32)) (C := RX1) (T := TX1) (N := 5) hx hb hts hin_X1 tyX1 tyX1_ok nmX1 hown hK hS (by omega) (e_net (k := k) hk) rfl 1 (by decide) hk_f34 rfl rfl rfl rfl (Nat.le_of_ble_eq_true rfl) (fun d hd h => eo d hd (by rw [own_m hk]; exact h)) (e_netm (k := k) hk) dX1_numberLines_2 (fun H locs hS => ?_)
  obtain ⟨σ1, eσ1⟩ : ∃ t : Sg, t = pI σ (5 + 2 * k) (0 : Int32) := ⟨_, rfl⟩
  rw [← eσ1] at hS
  have hB := vl_at eσ1 hB
  refine lv_iconst (v := (0 : Int32)) hx hb dX1_numberLines_5 (by decide) ?_
  refine lv_istore_n (lv' := [(1, .int (0 : Int32)), (0, .ref (ad (3 + 4 * k)))]) hx hb dX1_numberLines_6 rfl hl (by decide) rfl (fun ls hl => ?_)
  obtain ⟨t23, ht23, hB⟩ := bi_at hB
  refine wl_W (body := fun a => f_X1_numberLines_B7 k a.1 a.2) (Hd := fun a : Int32 × Sg => ∀ (H : Heap) (locs : List Loc) (ls : Array Slot), ST dC dI ad cA s a.2 H locs → lv_has ls 3 [(0, .ref (ad (3 + 4 * k))), (1, .int a.1)] → W p l e (RM 0 0) s m args below meth c H locs 0 0 Q (F0 m 7 ls [])) (Ex := fun b : Sg => ∀ (H : Heap) (locs : List Loc) (ls : Array Slot), ST dC dI ad cA s b H locs → lv_has ls 3 [] → W p l e (RM 0 0) s m args below meth c H locs 0 0 Q (F0 m 92 ls [])) ?_ FU _ t23 ht23 ?_ H locs ls hS (lv_sub hl [1, 0] rfl)
  · intro a r7 hB hI7 hE7 H locs ls hS hl
    obtain ⟨x2, σ3⟩ := a
    have hB : f_X1_numberLines_B7 k x2 σ3 = some r7 := hB
    unfold f_X1_numberLines_B7 at hB
    have hS : ST dC dI ad cA s σ3 H locs := hS
    have hl : lv_has ls 3 [(0, .ref (ad (3 + 4 * k))), (1, .int x2)] := hl
    show W p l e (RM 0 0) s m args below meth c H locs 0 0 Q (F0 m 7 ls [])
    refine lv_iload_n hx hb dX1_numberLines_7 rfl (lv_at hl 1 rfl) ?_
    refine lv_aload_n hx hb dX1_numberLines_8 rfl (lv_at hl 0 rfl) ?_
    refine r_get (v := .int (gI σ3 (4 + 2 * k))) (C := RX1) (T := TX1) (N := 5) hx hb hts hin_X1 hown hK hS (by omega) (e_net (k := k) hk) rfl 0 (by decide) hk_f9 rfl rfl dX1_numberLines_9 ?_
    refine lv_icmp_ge (tgt := 92) hx hb dX1_numberLines_12 (by decide) (fun c4 => ?_) (fun c4 => ?_)
    · have hB := it_t c4 hB
      exact hE7 _ (Option.some.inj hB).symm H locs ls hS (lv_sub hl [] rfl)
    · have hB := it_f c4 hB
      refine lv_iload_n hx hb dX1_numberLines_15 rfl (lv_at hl 1 rfl) ?_
      refine lv_iconst (v := (1 : Int32)) hx hb dX1_numberLines_16 (by decide) ?_
      refine lv_iadd hx hb dX1_numberLines_17 ?_
      refine lv_topi (fun x5 ex5 => ?_)
      have hB := vl_at ex5 hB
      refine lv_istore_n (lv' := [(2, .int x5), (0, .ref (ad (3 + 4 * k))), (1, .int x2)]) hx hb dX1_numberLines_18 rfl hl (by decide) rfl (fun ls hl => ?_)
      obtain ⟨t21, ht21, hB⟩ := bi_at hB
      refine wl_W (body := fun a => f_X1_numberLines_B19 k x2 a.1 a.2) (Hd := fun a : Int32 × Sg => ∀ (H : Heap) (locs : List Loc) (ls : Array Slot), ST dC dI ad cA s a.2 H locs → lv_has ls 3 [(0, .ref (ad (3 + 4 * k))), (1, .int x2), (2, .int a.1)] → W p l e (RM 0 0) s m args below meth c H locs 0 0 Q (F0 m 19 ls [])) (Ex := fun b : Sg => ∀ (H : Heap) (locs : List Loc) (ls : Array Slot), ST dC dI ad cA s b H locs → lv_has ls 3 [(0, .ref (ad (3 + 4 * k))), (1, .int x2)] → W p l e (RM 0 0) s m args below meth c H locs 0 0 Q (F0 m 86 ls [])) ?_ FU _ t21 ht21 ?_ H locs ls hS (lv_sub hl [1, 2, 0] rfl)
      · intro a r19 hB hI19 hE19 H locs ls hS hl
        obtain ⟨x6, σ7⟩ := a
        have hB : f_X1_numberLines_B19 k x2 x6 σ7 = some r19 := hB
        unfold f_X1_numberLines_B19 at hB
        have hS : ST dC dI ad cA s σ7 H locs := hS
        have hl : lv_has ls 3 [(0, .ref (ad (3 + 4 * k))), (1, .int x2), (2, .int x6)] := hl
        show W p l e (RM 0 0) s m args below meth c H locs 0 0 Q (F0 m 19 ls [])
        refine lv_iload_n hx hb dX1_numberLines_19 rfl (lv_at hl 2 rfl) ?_
        refine lv_aload_n hx hb dX1_numberLines_20 rfl (lv_at hl 0 rfl) ?_
        refine r_get (v := .int (gI σ7 (4 + 2 * k))) (C := RX1) (T := TX1) (N := 5) hx hb hts hin_X1 hown hK hS (by omega) (e_net (k := k) hk) rfl 0 (by decide) hk_f9 rfl rfl dX1_numberLines_21 ?_
        refine lv_icmp_ge (tgt := 86) hx hb dX1_numberLines_24 (by decide) (fun c8 => ?_) (fun c8 => ?_)
        · have hB := it_t c8 hB
          exact hE19 _ (Option.some.inj hB).symm H locs ls hS (lv_sub hl [0, 1] rfl)
        · have hB := it_f c8 hB
          refine lv_aload_n hx hb dX1_numberLines_27 rfl (lv_at hl 0 rfl) ?_
          refine r_get (v := .ref (ad (4 + 4 * k))) (C := RX1) (T := TX1) (N := 5) hx hb hts hin_X1 hown hK hS (by omega) (e_net (k := k) hk) rfl 2 (by decide) hk_f15 rfl rfl dX1_numberLines_28 ?_
          refine lv_iload_n hx hb dX1_numberLines_31 rfl (lv_at hl 1 rfl) ?_
          refine lv_bipush (v := (6 : Int32)) hx hb dX1_numberLines_32 (by decide) ?_
          refine lv_imul hx hb dX1_numberLines_34 ?_
          refine lv_iload_n hx hb dX1_numberLines_35 rfl (lv_at hl 2 rfl) ?_
          refine lv_iadd hx hb dX1_numberLines_36 ?_
          obtain ⟨h9, hB⟩ := gd_at hB
          refine r_iald hx hb hK hS (by rw [lenA_w hk]; exact h9) dX1_numberLines_37 ?_
          refine lv_if_eq (tgt := 80) hx hb dX1_numberLines_38 (by decide) (fun c10 => ?_) (fun c10 => ?_)
          · have hB := it_t c10 hB
            obtain ⟨x11, ex11⟩ : ∃ y : Int32, y = x6 + (1 : Int32) := ⟨_, rfl⟩
            have hB := vl_at ex11 hB
            refine lv_iinc (v := x11) (lv' := [(2, .int x11), (0, .ref (ad (3 + 4 * k))), (1, .int x2)]) hx hb dX1_numberLines_80 hl (k := 2) rfl (by rw [ex11]; rfl) (by decide) rfl (fun ls hl => ?_)
            refine lv_goto (tgt := 19) hx hb dX1_numberLines_83 (by decide) ?_
            exact hI19 _ (Option.some.inj hB).symm H locs ls hS (lv_sub hl [1, 2, 0] rfl)
          · have hB := it_f c10 hB
            refine lv_aload_n hx hb dX1_numberLines_41 rfl (lv_at hl 0 rfl) ?_
            refine r_get (v := .int (gI σ7 (5 + 2 * k))) (C := RX1) (T := TX1) (N := 5) hx hb hts hin_X1 hown hK hS (by omega) (e_net (k := k) hk) rfl 1 (by decide) hk_f34 rfl rfl dX1_numberLines_42 ?_
            refine lv_bipush (v := (10 : Int32)) hx hb dX1_numberLines_45 (by decide) ?_
            refine lv_icmp_ge (tgt := 80) hx hb dX1_numberLines_47 (by decide) (fun c12 => ?_) (fun c12 => ?_)
            · have hB := it_t c12 hB
              obtain ⟨x13, ex13⟩ : ∃ y : Int32, y = x6 + (1 : Int32) := ⟨_, rfl⟩
              have hB := vl_at ex13 hB
              refine lv_iinc (v := x13) (lv' := [(2, .int x13), (0, .ref (ad (3 + 4 * k))), (1, .int x2)]) hx hb dX1_numberLines_80 hl (k := 2) rfl (by rw [ex13]; rfl) (by decide) rfl (fun ls hl => ?_)
              refine lv_goto (tgt := 19) hx hb dX1_numberLines_83 (by decide) ?_
              exact hI19 _ (Option.some.inj hB).symm H locs ls hS (lv_sub hl [1, 2, 0] rfl)
            · have hB := it_f c12 hB
              refine lv_aload_n hx hb dX1_numberLines_50 rfl (lv_at hl 0 rfl) ?_
              refine r_get (v := .ref (ad (5 + 4 * k))) (C := RX1) (T := TX1) (N := 5) hx hb hts hin_X1 hown hK hS (by omega) (e_net (k := k) hk) rfl 3 (by decide) hk_f19 rfl rfl dX1_numberLines_51 ?_
              refine lv_aload_n hx hb dX1_numberLines_54 rfl (lv_at hl 0 rfl) ?_
              refine r_get (v := .int (gI σ7 (5 + 2 * k))) (C := RX1) (T := TX1) (N := 5) hx hb hts hin_X1 hown hK hS (by omega) (e_net (k := k) hk) rfl 1 (by decide) hk_f34 rfl rfl dX1_numberLines_55 ?_
              refine lv_iload_n hx hb dX1_numberLines_58 rfl (lv_at hl 1 rfl) ?_
              obtain ⟨h14, hB⟩ := gd_at hB
              refine r_iast hx hb hK hS (by rw [lenA_l hk]; exact h14) dX1_numberLines_59 (fun H locs hS => ?_)
              obtain ⟨σ15, eσ15⟩ : ∃ t : Sg, t = pA σ7 (5 + 4 * k) (gI σ7 (5 + 2 * k)).toNatClampNeg x2 := ⟨_, rfl⟩
              rw [← eσ15] at hS
              have hB := vl_at eσ15 hB
              refine lv_aload_n hx hb dX1_numberLines_60 rfl (lv_at hl 0 rfl) ?_
              refine r_get (v := .ref (ad (6 + 4 * k))) (C := RX1) (T := TX1) (N := 5) hx hb hts hin_X1 hown hK hS (by omega) (e_net (k := k) hk) rfl 4 (by decide) hk_f22 rfl rfl dX1_numberLines_61 ?_
              refine lv_aload_n hx hb dX1_numberLines_64 rfl (lv_at hl 0 rfl) ?_
              refine r_get (v := .int (gI σ15 (5 + 2 * k))) (C := RX1) (T := TX1) (N := 5) hx hb hts hin_X1 hown hK hS (by omega) (e_net (k := k) hk) rfl 1 (by decide) hk_f34 rfl rfl dX1_numberLines_65 ?_
              refine lv_iload_n hx hb dX1_numberLines_68 rfl (lv_at hl 2 rfl) ?_
              obtain ⟨h16, hB⟩ := gd_at hB
              refine r_iast hx hb hK hS (by rw [lenA_h hk]; exact h16) dX1_numberLines_69 (fun H locs hS => ?_)
              obtain ⟨σ17, eσ17⟩ : ∃ t : Sg, t = pA σ15 (6 + 4 * k) (gI σ15 (5 + 2 * k)).toNatClampNeg x6 := ⟨_, rfl⟩
              rw [← eσ17] at hS
              have hB := vl_at eσ17 hB
              refine lv_aload_n hx hb dX1_numberLines_70 rfl (lv_at hl 0 rfl) ?_
              refine lv_dup hx hb dX1_numberLines_71 rfl ?_
              refine r_get (v := .int (gI σ17 (5 + 2 * k))) (C := RX1) (T := TX1) (N := 5) hx hb hts hin_X1 hown hK hS (by omega) (e_net (k := k) hk) rfl 1 (by decide) hk_f34 rfl rfl dX1_numberLines_72 ?_
              refine lv_iconst (v := (1 : Int32)) hx hb dX1_numberLines_75 (by decide) ?_
              refine lv_iadd hx hb dX1_numberLines_76 ?_
              refine lv_topi (fun x18 ex18 => ?_)
              have hB := vl_at ex18 hB
              refine r_put (σ' := pI σ17 (5 + 2 * k) x18) (v := .int x18) (C := RX1) (T := TX1) (N := 5) hx hb hts hin_X1 tyX1 tyX1_ok nmX1 hown hK hS (by omega) (e_net (k := k) hk) rfl 1 (by decide) hk_f34 rfl rfl rfl rfl (Nat.le_of_ble_eq_true rfl) (fun d hd h => eo d hd (by rw [own_m hk]; exact h)) (e_netm (k := k) hk) dX1_numberLines_77 (fun H locs hS => ?_)
              obtain ⟨σ19, eσ19⟩ : ∃ t : Sg, t = pI σ17 (5 + 2 * k) x18 := ⟨_, rfl⟩
              rw [← eσ19] at hS
              have hB := vl_at eσ19 hB
              obtain ⟨x20, ex20⟩ : ∃ y : Int32, y = x6 + (1 : Int32) := ⟨_, rfl⟩
              have hB := vl_at ex20 hB
              refine lv_iinc (v := x20) (lv' := [(2, .int x20), (0, .ref (ad (3 + 4 * k))), (1, .int x2)]) hx hb dX1_numberLines_80 hl (k := 2) rfl (by rw [ex20]; rfl) (by decide) rfl (fun ls hl => ?_)
              refine lv_goto (tgt := 19) hx hb dX1_numberLines_83 (by decide) ?_
              exact hI19 _ (Option.some.inj hB).symm H locs ls hS (lv_sub hl [1, 2, 0] rfl)
      · skip
        intro H locs ls hS hl
        have hS : ST dC dI ad cA s t21 H locs := hS
        have hl : lv_has ls 3 [(0, .ref (ad (3 + 4 * k))), (1, .int x2)] := hl
        show W p l e (RM 0 0) s m args below meth c H locs 0 0 Q (F0 m 86 ls [])
        obtain ⟨x22, ex22⟩ : ∃ y : Int32, y = x2 + (1 : Int32) := ⟨_, rfl⟩
        have hB := vl_at ex22 hB
        refine lv_iinc (v := x22) (lv' := [(1, .int x22), (0, .ref (ad (3 + 4 * k)))]) hx hb dX1_numberLines_86 hl (k := 1) rfl (by rw [ex22]; rfl) (by decide) rfl (fun ls hl => ?_)
        refine lv_goto (tgt := 7) hx hb dX1_numberLines_89 (by decide) ?_
        exact hI7 _ (Option.some.inj hB).symm H locs ls hS (lv_sub hl [1, 0] rfl)
  · skip
    intro H locs ls hS hl
    have hS : ST dC dI ad cA s t23 H locs := hS
    have hl : lv_has ls 3 [] := hl
    show W p l e (RM 0 0) s m args below meth c H locs 0 0 Q (F0 m 92 ls [])
    subst hQ
    exact r_vret hx hb hr hK hS hB hlocks dX1_numberLines_92
set_option maxHeartbeats 4000000 in
set_option maxRecDepth 100000 in
theorem c_X1_put (l : Launch) (dC : Nat → ClassId) (dI : Nat → Nat → Nat) (ad : Nat → Nat) (cA : Nat → ClassId) (σ : Sg) (k : Nat) (hk : k < 5) (a1 : Int32) (a2 : Int32) (a3 : Int32) (z : Sg) (hB : f_X1_put σ k a1 a2 a3 = some z) : Kv l dC dI ad cA yX1_put wsX1_put 1 22 [.ref (ad (3 + 4 * k)), .int a1, .int a2, .int a3] σ z := by
  refine mk_v (cc := cX1_put) (maxL := 4) (ret := none) (by decide) rfl (Nat.le_of_ble_eq_true rfl) ?_
  intro p e s m args below meth c Q H locs ls ⟨hx, hb, hr, hml, hown, hts, hlocks, hK, hN⟩ hQ hS hl
  have hown : s.vm.findClass RX1 = some m.cls := hown
  have hl : lv_has ls 4 [(0, .ref (ad (3 + 4 * k))), (1, .int a1), (2, .int a2), (3, .int a3)] := hl
  have hk_f15 := hts (.fieldLink RX1 15 "ChanceNets$Net" "widths" "[I") (by decide +kernel)
  have hin_X1 : ∀ w ∈ u_ws RX1 TX1 5, w ∈ wsX1_put := by decide +kernel
  unfold f_X1_put at hB
  refine lv_aload_n hx hb dX1_put_0 rfl (lv_at hl 0 rfl) ?_
  refine lv_iload_n hx hb dX1_put_1 rfl (lv_at hl 1 rfl) ?_
  obtain ⟨t1, ht1, hB⟩ := bi_at hB
  refine r_ViP ⟨hx, hb, hml, hown, hts⟩ (c_X1_hasNode l dC dI ad cA σ k hk a1 t1 ht1) (cwV 1 hts gX1_put_X1_hasNode rfl rfl rfl (by decide +kernel) ⟨Nat.le_of_ble_eq_true rfl, Nat.le_of_ble_eq_true rfl⟩) hK hN hS (by omega) (e_net (k := k) hk) rfl rfl hl.1 rfl (Nat.le_of_ble_eq_true rfl) dX1_put_2 ⟨Nat.le_refl _, Nat.le_refl _⟩ (fun H locs hS => ?_)
  refine lv_if_eq (tgt := 49) hx hb dX1_put_5 (by decide) (fun c2 => ?_) (fun c2 => ?_)
  · have hB := it_t c2 hB
    subst hQ
    exact r_vret hx hb hr hK hS hB hlocks dX1_put_49
  · have hB := it_f c2 hB
    refine lv_aload_n hx hb dX1_put_8 rfl (lv_at hl 0 rfl) ?_
    refine lv_iload_n hx hb dX1_put_9 rfl (lv_at hl 2 rfl) ?_
    obtain ⟨t3, ht3, hB⟩ := bi_at hB
    refine r_ViP ⟨hx, hb, hml, hown, hts⟩ (c_X1_hasNode l dC dI ad cA σ k hk a2 t3 ht3) (cwV 1 hts gX1_put_X1_hasNode rfl rfl rfl (by decide +kernel) ⟨Nat.le_of_ble_eq_true rfl, Nat.le_of_ble_eq_true rfl⟩) hK hN hS (by omega) (e_net (k := k) hk) rfl rfl hl.1 rfl (Nat.le_of_ble_eq_true rfl) dX1_put_10 ⟨Nat.le_refl _, Nat.le_refl _⟩ (fun H locs hS => ?_)
    refine lv_if_eq (tgt := 49) hx hb dX1_put_13 (by decide) (fun c4 => ?_) (fun c4 => ?_)
    · have hB := it_t c4 hB
      subst hQ
      exact r_vret hx hb hr hK hS hB hlocks dX1_put_49
    · have hB := it_f c4 hB
      refine lv_iload_n hx hb dX1_put_16 rfl (lv_at hl 1 rfl) ?_
      refine lv_iload_n hx hb dX1_put_17 rfl (lv_at hl 2 rfl) ?_
      refine lv_icmp_eq (tgt := 49) hx hb dX1_put_18 (by decide) (fun c5 => ?_) (fun c5 => ?_)
      · have hB := it_t c5 hB
        subst hQ
        exact r_vret hx hb hr hK hS hB hlocks dX1_put_49
      · have hB := it_f c5 hB
        refine lv_aload_n hx hb dX1_put_21 rfl (lv_at hl 0 rfl) ?_
        refine r_get (v := .ref (ad (4 + 4 * k))) (C := RX1) (T := TX1) (N := 5) hx hb hts hin_X1 hown hK hS (by omega) (e_net (k := k) hk) rfl 2 (by decide) hk_f15 rfl rfl dX1_put_22 ?_
        refine lv_iload_n hx hb dX1_put_25 rfl (lv_at hl 1 rfl) ?_
        refine lv_bipush (v := (6 : Int32)) hx hb dX1_put_26 (by decide) ?_
        refine lv_imul hx hb dX1_put_28 ?_
        refine lv_iload_n hx hb dX1_put_29 rfl (lv_at hl 2 rfl) ?_
        refine lv_iadd hx hb dX1_put_30 ?_
        refine lv_iload_n hx hb dX1_put_31 rfl (lv_at hl 3 rfl) ?_
        obtain ⟨h6, hB⟩ := gd_at hB
        refine r_iast hx hb hK hS (by rw [lenA_w hk]; exact h6) dX1_put_32 (fun H locs hS => ?_)
        obtain ⟨σ7, eσ7⟩ : ∃ t : Sg, t = pA σ (4 + 4 * k) ((a1 * (6 : Int32)) + a2).toNatClampNeg a3 := ⟨_, rfl⟩
        rw [← eσ7] at hS
        have hB := vl_at eσ7 hB
        refine lv_aload_n hx hb dX1_put_33 rfl (lv_at hl 0 rfl) ?_
        refine r_get (v := .ref (ad (4 + 4 * k))) (C := RX1) (T := TX1) (N := 5) hx hb hts hin_X1 hown hK hS (by omega) (e_net (k := k) hk) rfl 2 (by decide) hk_f15 rfl rfl dX1_put_34 ?_
        refine lv_iload_n hx hb dX1_put_37 rfl (lv_at hl 2 rfl) ?_
        refine lv_bipush (v := (6 : Int32)) hx hb dX1_put_38 (by decide) ?_
        refine lv_imul hx hb dX1_put_40 ?_
        refine lv_iload_n hx hb dX1_put_41 rfl (lv_at hl 1 rfl) ?_
        refine lv_iadd hx hb dX1_put_42 ?_
        refine lv_iload_n hx hb dX1_put_43 rfl (lv_at hl 3 rfl) ?_
        obtain ⟨h8, hB⟩ := gd_at hB
        refine r_iast hx hb hK hS (by rw [lenA_w hk]; exact h8) dX1_put_44 (fun H locs hS => ?_)
        obtain ⟨σ9, eσ9⟩ : ∃ t : Sg, t = pA σ7 (4 + 4 * k) ((a2 * (6 : Int32)) + a1).toNatClampNeg a3 := ⟨_, rfl⟩
        rw [← eσ9] at hS
        have hB := vl_at eσ9 hB
        refine lv_aload_n hx hb dX1_put_45 rfl (lv_at hl 0 rfl) ?_
        obtain ⟨t10, ht10, hB⟩ := bi_at hB
        refine r_Vv ⟨hx, hb, hml, hown, hts⟩ (c_X1_numberLines l dC dI ad cA σ9 k hk t10 ht10) (cwV 0 hts gX1_put_X1_numberLines rfl rfl rfl (by decide +kernel) ⟨Nat.le_of_ble_eq_true rfl, Nat.le_of_ble_eq_true rfl⟩) hK hN hS (by omega) (e_net (k := k) hk) rfl rfl hl.1 rfl (Nat.le_of_ble_eq_true rfl) dX1_put_46 ⟨Nat.le_refl _, Nat.le_refl _⟩ (fun H locs hS => ?_)
        subst hQ
        exact r_vret hx hb hr hK hS hB hlocks dX1_put_49
set_option maxHeartbeats 4000000 in
set_option maxRecDepth 100000 in
theorem c_X4_tellsLine (l : Launch) (dC : Nat → ClassId) (dI : Nat → Nat → Nat) (ad : Nat → Nat) (cA : Nat → ClassId) (σ : Sg) (kn : Nat) (hkn : kn < 5) (z : Int32 × Sg) (hB : f_X4_tellsLine σ kn = some z) : Ki l dC dI ad cA yX4_tellsLine wsX4_tellsLine 3 64 [.ref (ad 1), .ref (ad (3 + 4 * kn))] σ z := by
  refine mk_i (cc := cX4_tellsLine) (maxL := 5) (ret := (some .boolean)) (by decide) rfl (Nat.le_of_ble_eq_true rfl) ?_
  intro p e s m args below meth c Q H locs ls ⟨hx, hb, hr, hml, hown, hts, hlocks, hK, hN⟩ hQ hS hl
  have hown : s.vm.findClass RX4 = some m.cls := hown
  have hl : lv_has ls 5 [(0, .ref (ad 1)), (1, .ref (ad (3 + 4 * kn)))] := hl
  have hk_f59 := hts (.fieldLink RX4 59 "ChanceNets$Net" "nodes" "I") (by decide +kernel)
  have hin_X1 : ∀ w ∈ u_ws RX1 TX1 5, w ∈ wsX4_tellsLine := by decide +kernel
  have hk_f19 := hts (.fieldLink RX4 19 "ChanceNets$Text" "place" "I") (by decide +kernel)
  have hin_X4 : ∀ w ∈ u_ws RX4 TX4 4, w ∈ wsX4_tellsLine := by decide +kernel
  unfold f_X4_tellsLine at hB
  refine lv_aload_n hx hb dX4_tellsLine_0 rfl (lv_at hl 0 rfl) ?_
  refine lv_iconst (v := (0 : Int32)) hx hb dX4_tellsLine_1 (by decide) ?_
  refine lv_aload_n hx hb dX4_tellsLine_2 rfl (lv_at hl 1 rfl) ?_
  refine r_get (v := .int (gI σ (4 + 2 * kn))) (C := RX1) (T := TX1) (N := 5) hx hb hts hin_X1 hown hK hS (by omega) (e_net (k := kn) hkn) rfl 0 (by decide) hk_f59 rfl rfl dX4_tellsLine_3 ?_
  refine lv_iconst (v := (1 : Int32)) hx hb dX4_tellsLine_6 (by decide) ?_
  refine lv_isub hx hb dX4_tellsLine_7 ?_
  obtain ⟨t1, ht1, hB⟩ := bi_at hB
  refine r_Vi ⟨hx, hb, hml, hown, hts⟩ (c_X4_numberAhead l dC dI ad cA σ (0 : Int32) ((gI σ (4 + 2 * kn)) - (1 : Int32)) t1 ht1) (cwV 2 hts gX4_tellsLine_X4_numberAhead rfl rfl rfl (by decide +kernel) ⟨Nat.le_of_ble_eq_true rfl, Nat.le_of_ble_eq_true rfl⟩) hK hN hS (by decide) e_1 rfl rfl hl.1 rfl (Nat.le_of_ble_eq_true rfl) dX4_tellsLine_8 ⟨Nat.le_refl _, Nat.le_refl _⟩ (fun H locs hS => ?_)
  refine lv_istore_n (lv' := [(2, .int t1.1), (0, .ref (ad 1)), (1, .ref (ad (3 + 4 * kn)))]) hx hb dX4_tellsLine_11 rfl hl (by decide) rfl (fun ls hl => ?_)
  refine lv_iload_n hx hb dX4_tellsLine_12 rfl (lv_at hl 0 rfl) ?_
  refine lv_iconst (v := (-1 : Int32)) hx hb dX4_tellsLine_13 (by decide) ?_
  refine lv_icmp_ne (tgt := 19) hx hb dX4_tellsLine_14 (by decide) (fun c2 => ?_) (fun c2 => ?_)
  · have hB := it_f c2 hB
    refine lv_aload_n hx hb dX4_tellsLine_19 rfl (lv_at hl 1 rfl) ?_
    refine lv_dup hx hb dX4_tellsLine_20 rfl ?_
    refine r_get (v := .int (gI t1.2 2)) (C := RX4) (T := TX4) (N := 4) hx hb hts hin_X4 hown hK hS (by decide) e_1 rfl 2 (by decide) hk_f19 rfl rfl dX4_tellsLine_21 ?_
    refine lv_iconst (v := (1 : Int32)) hx hb dX4_tellsLine_24 (by decide) ?_
    refine lv_iadd hx hb dX4_tellsLine_25 ?_
    refine lv_topi (fun x3 ex3 => ?_)
    have hB := vl_at ex3 hB
    refine r_put (σ' := pI t1.2 2 x3) (v := .int x3) (C := RX4) (T := TX4) (N := 4) hx hb hts hin_X4 tyX4 tyX4_ok nmX4 hown hK hS (by decide) e_1 rfl 2 (by decide) hk_f19 rfl rfl rfl rfl (Nat.le_of_ble_eq_true rfl) (fun d hd h => eo d hd h) rfl dX4_tellsLine_26 (fun H locs hS => ?_)
    obtain ⟨σ4, eσ4⟩ : ∃ t : Sg, t = pI t1.2 2 x3 := ⟨_, rfl⟩
    rw [← eσ4] at hS
    have hB := vl_at eσ4 hB
    refine lv_aload_n hx hb dX4_tellsLine_29 rfl (lv_at hl 1 rfl) ?_
    refine lv_iconst (v := (0 : Int32)) hx hb dX4_tellsLine_30 (by decide) ?_
    refine lv_aload_n hx hb dX4_tellsLine_31 rfl (lv_at hl 2 rfl) ?_
    refine r_get (v := .int (gI σ4 (4 + 2 * kn))) (C := RX1) (T := TX1) (N := 5) hx hb hts hin_X1 hown hK hS (by omega) (e_net (k := kn) hkn) rfl 0 (by decide) hk_f59 rfl rfl dX4_tellsLine_32 ?_
    refine lv_iconst (v := (1 : Int32)) hx hb dX4_tellsLine_35 (by decide) ?_
    refine lv_isub hx hb dX4_tellsLine_36 ?_
    obtain ⟨t5, ht5, hB⟩ := bi_at hB
    refine r_Vi ⟨hx, hb, hml, hown, hts⟩ (c_X4_numberAhead l dC dI ad cA σ4 (0 : Int32) ((gI σ4 (4 + 2 * kn)) - (1 : Int32)) t5 ht5) (cwV 2 hts gX4_tellsLine_X4_numberAhead rfl rfl rfl (by decide +kernel) ⟨Nat.le_of_ble_eq_true rfl, Nat.le_of_ble_eq_true rfl⟩) hK hN hS (by decide) e_1 rfl rfl hl.1 rfl (Nat.le_of_ble_eq_true rfl) dX4_tellsLine_37 ⟨Nat.le_refl _, Nat.le_refl _⟩ (fun H locs hS => ?_)
    refine lv_istore_n (lv' := [(3, .int t5.1), (2, .int t1.1), (0, .ref (ad 1)), (1, .ref (ad (3 + 4 * kn)))]) hx hb dX4_tellsLine_40 rfl hl (by decide) rfl (fun ls hl => ?_)
    refine lv_iload_n hx hb dX4_tellsLine_41 rfl (lv_at hl 0 rfl) ?_
    refine lv_iconst (v := (-1 : Int32)) hx hb dX4_tellsLine_42 (by decide) ?_
    refine lv_icmp_eq (tgt := 60) hx hb dX4_tellsLine_43 (by decide) (fun c6 => ?_) (fun c6 => ?_)
    · have hB := it_t c6 hB
      refine lv_iconst (v := (0 : Int32)) hx hb dX4_tellsLine_60 (by decide) ?_
      subst hQ
      exact r_zret hx hb hr hK hS rfl hB hlocks dX4_tellsLine_61
    · have hB := it_f c6 hB
      refine lv_iload_n hx hb dX4_tellsLine_46 rfl (lv_at hl 0 rfl) ?_
      refine lv_iload_n hx hb dX4_tellsLine_47 rfl (lv_at hl 1 rfl) ?_
      refine lv_icmp_eq (tgt := 60) hx hb dX4_tellsLine_48 (by decide) (fun c7 => ?_) (fun c7 => ?_)
      · have hB := it_t c7 hB
        refine lv_iconst (v := (0 : Int32)) hx hb dX4_tellsLine_60 (by decide) ?_
        subst hQ
        exact r_zret hx hb hr hK hS rfl hB hlocks dX4_tellsLine_61
      · have hB := it_f c7 hB
        refine lv_aload_n hx hb dX4_tellsLine_51 rfl (lv_at hl 3 rfl) ?_
        refine lv_iload_n hx hb dX4_tellsLine_52 rfl (lv_at hl 1 rfl) ?_
        refine lv_iload_n hx hb dX4_tellsLine_53 rfl (lv_at hl 0 rfl) ?_
        obtain ⟨t8, ht8, hB⟩ := bi_at hB
        refine r_ViP ⟨hx, hb, hml, hown, hts⟩ (c_X1_widthAt l dC dI ad cA t5.2 kn hkn t1.1 t5.1 t8 ht8) (cwV 2 hts gX4_tellsLine_X1_widthAt rfl rfl rfl (by decide +kernel) ⟨Nat.le_of_ble_eq_true rfl, Nat.le_of_ble_eq_true rfl⟩) hK hN hS (by omega) (e_net (k := kn) hkn) rfl rfl hl.1 rfl (Nat.le_of_ble_eq_true rfl) dX4_tellsLine_54 ⟨Nat.le_refl _, Nat.le_refl _⟩ (fun H locs hS => ?_)
        refine lv_if_eq (tgt := 62) hx hb dX4_tellsLine_57 (by decide) (fun c9 => ?_) (fun c9 => ?_)
        · have hB := it_t c9 hB
          refine lv_aload_n hx hb dX4_tellsLine_62 rfl (lv_at hl 2 rfl) ?_
          refine lv_dup hx hb dX4_tellsLine_63 rfl ?_
          refine r_get (v := .int (gI t5.2 2)) (C := RX4) (T := TX4) (N := 4) hx hb hts hin_X4 hown hK hS (by decide) e_1 rfl 2 (by decide) hk_f19 rfl rfl dX4_tellsLine_64 ?_
          refine lv_iconst (v := (1 : Int32)) hx hb dX4_tellsLine_67 (by decide) ?_
          refine lv_iadd hx hb dX4_tellsLine_68 ?_
          refine lv_topi (fun x10 ex10 => ?_)
          have hB := vl_at ex10 hB
          refine r_put (σ' := pI t5.2 2 x10) (v := .int x10) (C := RX4) (T := TX4) (N := 4) hx hb hts hin_X4 tyX4 tyX4_ok nmX4 hown hK hS (by decide) e_1 rfl 2 (by decide) hk_f19 rfl rfl rfl rfl (Nat.le_of_ble_eq_true rfl) (fun d hd h => eo d hd h) rfl dX4_tellsLine_69 (fun H locs hS => ?_)
          obtain ⟨σ11, eσ11⟩ : ∃ t : Sg, t = pI t5.2 2 x10 := ⟨_, rfl⟩
          rw [← eσ11] at hS
          have hB := vl_at eσ11 hB
          refine lv_aload_n hx hb dX4_tellsLine_72 rfl (lv_at hl 2 rfl) ?_
          refine lv_iconst (v := (1 : Int32)) hx hb dX4_tellsLine_73 (by decide) ?_
          refine lv_bipush (v := (9 : Int32)) hx hb dX4_tellsLine_74 (by decide) ?_
          obtain ⟨t12, ht12, hB⟩ := bi_at hB
          refine r_Vi ⟨hx, hb, hml, hown, hts⟩ (c_X4_numberAhead l dC dI ad cA σ11 (1 : Int32) (9 : Int32) t12 ht12) (cwV 2 hts gX4_tellsLine_X4_numberAhead rfl rfl rfl (by decide +kernel) ⟨Nat.le_of_ble_eq_true rfl, Nat.le_of_ble_eq_true rfl⟩) hK hN hS (by decide) e_1 rfl rfl hl.1 rfl (Nat.le_of_ble_eq_true rfl) dX4_tellsLine_76 ⟨Nat.le_refl _, Nat.le_refl _⟩ (fun H locs hS => ?_)
          refine lv_istore (lv' := [(4, .int t12.1), (3, .int t5.1), (2, .int t1.1), (0, .ref (ad 1)), (1, .ref (ad (3 + 4 * kn)))]) hx hb dX4_tellsLine_79 hl (by decide) rfl (fun ls hl => ?_)
          refine lv_iload hx hb dX4_tellsLine_81 (lv_at hl 0 rfl) ?_
          refine lv_iconst (v := (-1 : Int32)) hx hb dX4_tellsLine_83 (by decide) ?_
          refine lv_icmp_ne (tgt := 89) hx hb dX4_tellsLine_84 (by decide) (fun c13 => ?_) (fun c13 => ?_)
          · have hB := it_f c13 hB
            refine lv_aload_n hx hb dX4_tellsLine_89 rfl (lv_at hl 3 rfl) ?_
            refine lv_dup hx hb dX4_tellsLine_90 rfl ?_
            refine r_get (v := .int (gI t12.2 2)) (C := RX4) (T := TX4) (N := 4) hx hb hts hin_X4 hown hK hS (by decide) e_1 rfl 2 (by decide) hk_f19 rfl rfl dX4_tellsLine_91 ?_
            refine lv_iconst (v := (1 : Int32)) hx hb dX4_tellsLine_94 (by decide) ?_
            refine lv_iadd hx hb dX4_tellsLine_95 ?_
            refine lv_topi (fun x14 ex14 => ?_)
            have hB := vl_at ex14 hB
            refine r_put (σ' := pI t12.2 2 x14) (v := .int x14) (C := RX4) (T := TX4) (N := 4) hx hb hts hin_X4 tyX4 tyX4_ok nmX4 hown hK hS (by decide) e_1 rfl 2 (by decide) hk_f19 rfl rfl rfl rfl (Nat.le_of_ble_eq_true rfl) (fun d hd h => eo d hd h) rfl dX4_tellsLine_96 (fun H locs hS => ?_)
            obtain ⟨σ15, eσ15⟩ : ∃ t : Sg, t = pI t12.2 2 x14 := ⟨_, rfl⟩
            rw [← eσ15] at hS
            have hB := vl_at eσ15 hB
            refine lv_aload_n hx hb dX4_tellsLine_99 rfl (lv_at hl 4 rfl) ?_
            refine lv_iload_n hx hb dX4_tellsLine_100 rfl (lv_at hl 2 rfl) ?_
            refine lv_iload_n hx hb dX4_tellsLine_101 rfl (lv_at hl 1 rfl) ?_
            refine lv_iload hx hb dX4_tellsLine_102 (lv_at hl 0 rfl) ?_
            obtain ⟨t16, ht16, hB⟩ := bi_at hB
            refine r_Vv ⟨hx, hb, hml, hown, hts⟩ (c_X1_put l dC dI ad cA σ15 kn hkn t1.1 t5.1 t12.1 t16 ht16) (cwV 3 hts gX4_tellsLine_X1_put rfl rfl rfl (by decide +kernel) ⟨Nat.le_of_ble_eq_true rfl, Nat.le_of_ble_eq_true rfl⟩) hK hN hS (by omega) (e_net (k := kn) hkn) rfl rfl hl.1 rfl (Nat.le_of_ble_eq_true rfl) dX4_tellsLine_104 ⟨Nat.le_refl _, Nat.le_refl _⟩ (fun H locs hS => ?_)
            refine lv_aload_n hx hb dX4_tellsLine_107 rfl (lv_at hl 3 rfl) ?_
            obtain ⟨t17, ht17, hB⟩ := bi_at hB
            refine r_Vi ⟨hx, hb, hml, hown, hts⟩ (c_X4_passesEnd l dC dI ad cA t16 t17 ht17) (cwV 0 hts gX4_tellsLine_X4_passesEnd rfl rfl rfl (by decide +kernel) ⟨Nat.le_of_ble_eq_true rfl, Nat.le_of_ble_eq_true rfl⟩) hK hN hS (by decide) e_1 rfl rfl hl.1 rfl (Nat.le_of_ble_eq_true rfl) dX4_tellsLine_108 ⟨Nat.le_refl _, Nat.le_refl _⟩ (fun H locs hS => ?_)
            obtain ⟨h18, hB⟩ := gd_at hB
            subst hQ
            exact r_zret hx hb hr hK hS (okZ_nar h18) hB hlocks dX4_tellsLine_111
          · have hB := it_t c13 hB
            refine lv_iconst (v := (0 : Int32)) hx hb dX4_tellsLine_87 (by decide) ?_
            subst hQ
            exact r_zret hx hb hr hK hS rfl hB hlocks dX4_tellsLine_88
        · have hB := it_f c9 hB
          refine lv_iconst (v := (0 : Int32)) hx hb dX4_tellsLine_60 (by decide) ?_
          subst hQ
          exact r_zret hx hb hr hK hS rfl hB hlocks dX4_tellsLine_61
  · have hB := it_t c2 hB
    refine lv_iconst (v := (0 : Int32)) hx hb dX4_tellsLine_17 (by decide) ?_
    subst hQ
    exact r_zret hx hb hr hK hS rfl hB hlocks dX4_tellsLine_18
set_option maxHeartbeats 4000000 in
set_option maxRecDepth 100000 in
theorem c_X4_tellsItem (l : Launch) (dC : Nat → ClassId) (dI : Nat → Nat → Nat) (ad : Nat → Nat) (cA : Nat → ClassId) (σ : Sg) (kn : Nat) (hkn : kn < 5) (z : Int32 × Sg) (hB : f_X4_tellsItem σ kn = some z) : Ki l dC dI ad cA yX4_tellsItem wsX4_tellsItem 4 88 [.ref (ad 1), .ref (ad (3 + 4 * kn))] σ z := by
  refine mk_i (cc := cX4_tellsItem) (maxL := 3) (ret := (some .boolean)) (by decide) rfl (Nat.le_of_ble_eq_true rfl) ?_
  intro p e s m args below meth c Q H locs ls ⟨hx, hb, hr, hml, hown, hts, hlocks, hK, hN⟩ hQ hS hl
  have hown : s.vm.findClass RX4 = some m.cls := hown
  have hl : lv_has ls 3 [(0, .ref (ad 1)), (1, .ref (ad (3 + 4 * kn)))] := hl
  have hk_f19 := hts (.fieldLink RX4 19 "ChanceNets$Text" "place" "I") (by decide +kernel)
  have hin_X4 : ∀ w ∈ u_ws RX4 TX4 4, w ∈ wsX4_tellsItem := by decide +kernel
  have hk_f45 := hts (.fieldLink RX4 45 "ChanceNets$Net" "lines" "I") (by decide +kernel)
  have hin_X1 : ∀ w ∈ u_ws RX1 TX1 5, w ∈ wsX4_tellsItem := by decide +kernel
  have hk_f22 := hts (.fieldLink RX4 22 "ChanceNets$Text" "items" "I") (by decide +kernel)
  unfold f_X4_tellsItem at hB
  refine lv_aload_n hx hb dX4_tellsItem_0 rfl (lv_at hl 0 rfl) ?_
  refine lv_aload_n hx hb dX4_tellsItem_1 rfl (lv_at hl 0 rfl) ?_
  refine r_get (v := .int (gI σ 2)) (C := RX4) (T := TX4) (N := 4) hx hb hts hin_X4 hown hK hS (by decide) e_1 rfl 2 (by decide) hk_f19 rfl rfl dX4_tellsItem_2 ?_
  obtain ⟨t1, ht1, hB⟩ := bi_at hB
  refine r_ViP ⟨hx, hb, hml, hown, hts⟩ (c_X4_letterAt l dC dI ad cA σ (gI σ 2) t1 ht1) (cwV 1 hts gX4_tellsItem_X4_letterAt rfl rfl rfl (by decide +kernel) ⟨Nat.le_of_ble_eq_true rfl, Nat.le_of_ble_eq_true rfl⟩) hK hN hS (by decide) e_1 rfl rfl hl.1 rfl (Nat.le_of_ble_eq_true rfl) dX4_tellsItem_5 ⟨Nat.le_refl _, Nat.le_refl _⟩ (fun H locs hS => ?_)
  refine lv_istore_n (lv' := [(2, .int t1), (0, .ref (ad 1)), (1, .ref (ad (3 + 4 * kn)))]) hx hb dX4_tellsItem_8 rfl hl (by decide) rfl (fun ls hl => ?_)
  refine lv_iload_n hx hb dX4_tellsItem_9 rfl (lv_at hl 0 rfl) ?_
  refine lv_bipush (v := (110 : Int32)) hx hb dX4_tellsItem_10 (by decide) ?_
  have hJ38 : ∀ (H : Heap) (locs : List Loc) (ls : Array Slot), f_X4_tellsItem_J38 σ kn t1 = some z → ST dC dI ad cA s σ H locs → lv_has ls 3 [(0, .ref (ad 1)), (1, .ref (ad (3 + 4 * kn))), (2, .int t1)] → W p l e (RM 4 88) s m args below meth c H locs 0 0 Q (F0 m 38 ls []) := by
    intro H locs ls hB hS hl
    unfold f_X4_tellsItem_J38 at hB
    refine lv_iload_n hx hb dX4_tellsItem_38 rfl (lv_at hl 2 rfl) ?_
    refine lv_bipush (v := (101 : Int32)) hx hb dX4_tellsItem_39 (by decide) ?_
    refine lv_icmp_ne (tgt := 69) hx hb dX4_tellsItem_41 (by decide) (fun c2 => ?_) (fun c2 => ?_)
    · have hB := it_f c2 hB
      refine lv_iconst (v := (0 : Int32)) hx hb dX4_tellsItem_69 (by decide) ?_
      subst hQ
      exact r_zret hx hb hr hK hS rfl hB hlocks dX4_tellsItem_70
    · have hB := it_t c2 hB
      refine lv_aload_n hx hb dX4_tellsItem_44 rfl (lv_at hl 1 rfl) ?_
      refine r_get (v := .int (gI σ (5 + 2 * kn))) (C := RX1) (T := TX1) (N := 5) hx hb hts hin_X1 hown hK hS (by omega) (e_net (k := kn) hkn) rfl 1 (by decide) hk_f45 rfl rfl dX4_tellsItem_45 ?_
      refine lv_bipush (v := (10 : Int32)) hx hb dX4_tellsItem_48 (by decide) ?_
      refine lv_icmp_ge (tgt := 69) hx hb dX4_tellsItem_50 (by decide) (fun c3 => ?_) (fun c3 => ?_)
      · have hB := it_t c3 hB
        refine lv_iconst (v := (0 : Int32)) hx hb dX4_tellsItem_69 (by decide) ?_
        subst hQ
        exact r_zret hx hb hr hK hS rfl hB hlocks dX4_tellsItem_70
      · have hB := it_f c3 hB
        refine lv_aload_n hx hb dX4_tellsItem_53 rfl (lv_at hl 0 rfl) ?_
        refine lv_dup hx hb dX4_tellsItem_54 rfl ?_
        refine r_get (v := .int (gI σ 2)) (C := RX4) (T := TX4) (N := 4) hx hb hts hin_X4 hown hK hS (by decide) e_1 rfl 2 (by decide) hk_f19 rfl rfl dX4_tellsItem_55 ?_
        refine lv_iconst (v := (1 : Int32)) hx hb dX4_tellsItem_58 (by decide) ?_
        refine lv_iadd hx hb dX4_tellsItem_59 ?_
        refine lv_topi (fun x4 ex4 => ?_)
        have hB := vl_at ex4 hB
        refine r_put (σ' := pI σ 2 x4) (v := .int x4) (C := RX4) (T := TX4) (N := 4) hx hb hts hin_X4 tyX4 tyX4_ok nmX4 hown hK hS (by decide) e_1 rfl 2 (by decide) hk_f19 rfl rfl rfl rfl (Nat.le_of_ble_eq_true rfl) (fun d hd h => eo d hd h) rfl dX4_tellsItem_60 (fun H locs hS => ?_)
        obtain ⟨σ5, eσ5⟩ : ∃ t : Sg, t = pI σ 2 x4 := ⟨_, rfl⟩
        rw [← eσ5] at hS
        have hB := vl_at eσ5 hB
        refine lv_aload_n hx hb dX4_tellsItem_63 rfl (lv_at hl 0 rfl) ?_
        refine lv_aload_n hx hb dX4_tellsItem_64 rfl (lv_at hl 1 rfl) ?_
        obtain ⟨t6, ht6, hB⟩ := bi_at hB
        refine r_Vi ⟨hx, hb, hml, hown, hts⟩ (c_X4_tellsLine l dC dI ad cA σ5 kn hkn t6 ht6) (cwV 1 hts gX4_tellsItem_X4_tellsLine rfl rfl rfl (by decide +kernel) ⟨Nat.le_of_ble_eq_true rfl, Nat.le_of_ble_eq_true rfl⟩) hK hN hS (by decide) e_1 rfl rfl hl.1 rfl (Nat.le_of_ble_eq_true rfl) dX4_tellsItem_65 ⟨Nat.le_refl _, Nat.le_refl _⟩ (fun H locs hS => ?_)
        obtain ⟨h7, hB⟩ := gd_at hB
        subst hQ
        exact r_zret hx hb hr hK hS (okZ_nar h7) hB hlocks dX4_tellsItem_68
  refine lv_icmp_ne (tgt := 38) hx hb dX4_tellsItem_12 (by decide) (fun c8 => ?_) (fun c8 => ?_)
  · have hB := it_f c8 hB
    exact hJ38  H locs ls hB hS (lv_sub hl [1, 2, 0] rfl)
  · have hB := it_t c8 hB
    refine lv_aload_n hx hb dX4_tellsItem_15 rfl (lv_at hl 1 rfl) ?_
    refine r_get (v := .int (gI σ 3)) (C := RX4) (T := TX4) (N := 4) hx hb hts hin_X4 hown hK hS (by decide) e_1 rfl 3 (by decide) hk_f22 rfl rfl dX4_tellsItem_16 ?_
    refine lv_if_ne (tgt := 38) hx hb dX4_tellsItem_19 (by decide) (fun c9 => ?_) (fun c9 => ?_)
    · have hB := it_f c9 hB
      exact hJ38  H locs ls hB hS (lv_sub hl [1, 2, 0] rfl)
    · have hB := it_t c9 hB
      refine lv_aload_n hx hb dX4_tellsItem_22 rfl (lv_at hl 1 rfl) ?_
      refine lv_dup hx hb dX4_tellsItem_23 rfl ?_
      refine r_get (v := .int (gI σ 2)) (C := RX4) (T := TX4) (N := 4) hx hb hts hin_X4 hown hK hS (by decide) e_1 rfl 2 (by decide) hk_f19 rfl rfl dX4_tellsItem_24 ?_
      refine lv_iconst (v := (1 : Int32)) hx hb dX4_tellsItem_27 (by decide) ?_
      refine lv_iadd hx hb dX4_tellsItem_28 ?_
      refine lv_topi (fun x10 ex10 => ?_)
      have hB := vl_at ex10 hB
      refine r_put (σ' := pI σ 2 x10) (v := .int x10) (C := RX4) (T := TX4) (N := 4) hx hb hts hin_X4 tyX4 tyX4_ok nmX4 hown hK hS (by decide) e_1 rfl 2 (by decide) hk_f19 rfl rfl rfl rfl (Nat.le_of_ble_eq_true rfl) (fun d hd h => eo d hd h) rfl dX4_tellsItem_29 (fun H locs hS => ?_)
      obtain ⟨σ11, eσ11⟩ : ∃ t : Sg, t = pI σ 2 x10 := ⟨_, rfl⟩
      rw [← eσ11] at hS
      have hB := vl_at eσ11 hB
      refine lv_aload_n hx hb dX4_tellsItem_32 rfl (lv_at hl 1 rfl) ?_
      refine lv_aload_n hx hb dX4_tellsItem_33 rfl (lv_at hl 2 rfl) ?_
      obtain ⟨t12, ht12, hB⟩ := bi_at hB
      refine r_Vi ⟨hx, hb, hml, hown, hts⟩ (c_X4_tellsNodes l dC dI ad cA σ11 kn hkn t12 ht12) (cwV 1 hts gX4_tellsItem_X4_tellsNodes rfl rfl rfl (by decide +kernel) ⟨Nat.le_of_ble_eq_true rfl, Nat.le_of_ble_eq_true rfl⟩) hK hN hS (by decide) e_1 rfl rfl hl.1 rfl (Nat.le_of_ble_eq_true rfl) dX4_tellsItem_34 ⟨Nat.le_refl _, Nat.le_refl _⟩ (fun H locs hS => ?_)
      obtain ⟨h13, hB⟩ := gd_at hB
      subst hQ
      exact r_zret hx hb hr hK hS (okZ_nar h13) hB hlocks dX4_tellsItem_37
