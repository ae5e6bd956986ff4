set_option maxHeartbeats 4000000 in
set_option maxRecDepth 100000 in
theorem law_forget {p : Program} {l : Launch} {e : Env} {s : State} {m : MethodId} {below : List Frame} {meth : Method} {c : Code} {H : Heap} {locs : List Loc} {cells slots : Nat} {Q : State → Prop} {ls : Array Slot} {dC : Nat → ClassId} {dI : Nat → Nat → Nat} {ad : Nat → Nat} {cA : Nat → ClassId} {σ : Sg} {b L : Nat} {xs : Nat → Int32} (C : LC p s m meth c b L xs dC dI cA ad) {i : Int32} (h1 : vp_in (i + 1) L) (h2 : vp_in (i + 2) L) (h3 : vp_in (i + 3) L) (h4 : vp_in (i + 4) L) (hV : Inv σ) (hS : ST dC dI ad cA s σ H locs) (hl : lv_has ls 4 [(0, .ref b), (1, .ref (ad 0)), (2, .ref (ad 45)), (3, .int i)]) (hf : cells ≤ room_1.cells ∧ slots ≤ room_1.slots)
    (kk : ∀ (σ2 : Sg) (H1 : Heap) (locs1 : List Loc), Inv σ2 → ST dC dI ad cA s σ2 H1 locs1 → W p l e room_1 s m #[Value.ref b] below meth c H1 locs1 cells slots Q (F0 m 901 ls [])) : W p l e room_1 s m #[Value.ref b] below meth c H locs cells slots Q (F0 m 806 ls []) := by
  obtain ⟨⟨hx, hb, hr, hml, hown, hts0, hX, hbl, hlocks, hgv⟩, hK, hN, had⟩ := C
  have hts : ∀ w ∈ wsL_law, w.before #[Value.ref b] s = true := fun w h => hts0 w (wsL_law_in w h)
  have hbA : ¬ AS ad s.heap.size b := fun q => by
    rcases q with ⟨k, hk, e9⟩ | q
    · have := had k hk
      omega
    · omega
  obtain ⟨r, σ1, σ2, e1, e2, hV2⟩ := S_forget  hV
  refine lv_aload_n hx hb dL_law_806 rfl (lv_at hl 1 rfl) ?_
  refine r_Vi ⟨hx, hb, hml, hown, hts⟩ (c_X6_forget l dC dI ad cA σ  _ e1) (cwV 0 hts gL_law_X6_forget rfl rfl rfl (by decide +kernel) ⟨(Nat.le_of_ble_eq_true rfl), (Nat.le_of_ble_eq_true rfl)⟩) hK hN hS (by decide) e_0 rfl rfl hl.1 rfl (Nat.le_of_ble_eq_true rfl) dL_law_807 hf (fun H locs hS => ?_)
  have hS : ST dC dI ad cA s σ1 H locs := hS
  refine lv_aload_n hx hb dL_law_810 rfl (lv_at hl 2 rfl) ?_
  refine r_Vi ⟨hx, hb, hml, hown, hts⟩ (c_X7_forget l dC dI ad cA σ1  _ e2) (cwV 0 hts gL_law_X7_forget rfl rfl rfl (by decide +kernel) ⟨(Nat.le_of_ble_eq_true rfl), (Nat.le_of_ble_eq_true rfl)⟩) hK hN hS (by decide) e_45 rfl rfl hl.1 rfl (Nat.le_of_ble_eq_true rfl) dL_law_811 hf (fun H locs hS => ?_)
  have hS : ST dC dI ad cA s σ2 H locs := hS
  exact lv_icmp_eq (tgt := 901) hx hb dL_law_814 (by decide) (fun _ => kk _ H locs hV2 hS) (fun c9 => absurd rfl c9)
set_option maxHeartbeats 4000000 in
set_option maxRecDepth 100000 in
theorem law_unseen {p : Program} {l : Launch} {e : Env} {s : State} {m : MethodId} {below : List Frame} {meth : Method} {c : Code} {H : Heap} {locs : List Loc} {cells slots : Nat} {Q : State → Prop} {ls : Array Slot} {dC : Nat → ClassId} {dI : Nat → Nat → Nat} {ad : Nat → Nat} {cA : Nat → ClassId} {σ : Sg} {b L : Nat} {xs : Nat → Int32} (C : LC p s m meth c b L xs dC dI cA ad) {i : Int32} (h1 : vp_in (i + 1) L) (h2 : vp_in (i + 2) L) (h3 : vp_in (i + 3) L) (h4 : vp_in (i + 4) L) (hV : Inv σ) (hS : ST dC dI ad cA s σ H locs) (hl : lv_has ls 4 [(0, .ref b), (1, .ref (ad 0)), (2, .ref (ad 45)), (3, .int i)]) (hf : cells ≤ room_1.cells ∧ slots ≤ room_1.slots)
    (kk : ∀ (σ2 : Sg) (H1 : Heap) (locs1 : List Loc), Inv σ2 → ST dC dI ad cA s σ2 H1 locs1 → W p l e room_1 s m #[Value.ref b] below meth c H1 locs1 cells slots Q (F0 m 901 ls [])) : W p l e room_1 s m #[Value.ref b] below meth c H locs cells slots Q (F0 m 819 ls []) := by
  obtain ⟨⟨hx, hb, hr, hml, hown, hts0, hX, hbl, hlocks, hgv⟩, hK, hN, had⟩ := C
  have hts : ∀ w ∈ wsL_law, w.before #[Value.ref b] s = true := fun w h => hts0 w (wsL_law_in w h)
  have hbA : ¬ AS ad s.heap.size b := fun q => by
    rcases q with ⟨k, hk, e9⟩ | q
    · have := had k hk
      omega
    · omega
  obtain ⟨r, σ1, σ2, e1, e2, hV2⟩ := S_unseen  hV
  refine lv_aload_n hx hb dL_law_819 rfl (lv_at hl 1 rfl) ?_
  refine r_Vi ⟨hx, hb, hml, hown, hts⟩ (c_X6_unseen l dC dI ad cA σ  _ e1) (cwV 0 hts gL_law_X6_unseen rfl rfl rfl (by decide +kernel) ⟨(Nat.le_of_ble_eq_true rfl), (Nat.le_of_ble_eq_true rfl)⟩) hK hN hS (by decide) e_0 rfl rfl hl.1 rfl (Nat.le_of_ble_eq_true rfl) dL_law_820 hf (fun H locs hS => ?_)
  have hS : ST dC dI ad cA s σ1 H locs := hS
  refine lv_aload_n hx hb dL_law_823 rfl (lv_at hl 2 rfl) ?_
  refine r_Vi ⟨hx, hb, hml, hown, hts⟩ (c_X7_unseen l dC dI ad cA σ1  _ e2) (cwV 0 hts gL_law_X7_unseen rfl rfl rfl (by decide +kernel) ⟨(Nat.le_of_ble_eq_true rfl), (Nat.le_of_ble_eq_true rfl)⟩) hK hN hS (by decide) e_45 rfl rfl hl.1 rfl (Nat.le_of_ble_eq_true rfl) dL_law_824 hf (fun H locs hS => ?_)
  have hS : ST dC dI ad cA s σ2 H locs := hS
  exact lv_icmp_eq (tgt := 901) hx hb dL_law_827 (by decide) (fun _ => kk _ H locs hV2 hS) (fun c9 => absurd rfl c9)
set_option maxHeartbeats 4000000 in
set_option maxRecDepth 100000 in
theorem law_keep {p : Program} {l : Launch} {e : Env} {s : State} {m : MethodId} {below : List Frame} {meth : Method} {c : Code} {H : Heap} {locs : List Loc} {cells slots : Nat} {Q : State → Prop} {ls : Array Slot} {dC : Nat → ClassId} {dI : Nat → Nat → Nat} {ad : Nat → Nat} {cA : Nat → ClassId} {σ : Sg} {b L : Nat} {xs : Nat → Int32} (C : LC p s m meth c b L xs dC dI cA ad) {i : Int32} (h1 : vp_in (i + 1) L) (h2 : vp_in (i + 2) L) (h3 : vp_in (i + 3) L) (h4 : vp_in (i + 4) L) (hV : Inv σ) (hS : ST dC dI ad cA s σ H locs) (hl : lv_has ls 4 [(0, .ref b), (1, .ref (ad 0)), (2, .ref (ad 45)), (3, .int i)]) (hf : cells ≤ room_1.cells ∧ slots ≤ room_1.slots)
    (kk : ∀ (σ2 : Sg) (H1 : Heap) (locs1 : List Loc), Inv σ2 → ST dC dI ad cA s σ2 H1 locs1 → W p l e room_1 s m #[Value.ref b] below meth c H1 locs1 cells slots Q (F0 m 901 ls [])) : W p l e room_1 s m #[Value.ref b] below meth c H locs cells slots Q (F0 m 832 ls []) := by
  obtain ⟨⟨hx, hb, hr, hml, hown, hts0, hX, hbl, hlocks, hgv⟩, hK, hN, had⟩ := C
  have hts : ∀ w ∈ wsL_law, w.before #[Value.ref b] s = true := fun w h => hts0 w (wsL_law_in w h)
  have hbA : ¬ AS ad s.heap.size b := fun q => by
    rcases q with ⟨k, hk, e9⟩ | q
    · have := had k hk
      omega
    · omega
  obtain ⟨r, σ1, σ2, e1, e2, hV2⟩ := S_keep (xs (i + 1).toNatClampNeg) hV
  refine lv_aload_n hx hb dL_law_832 rfl (lv_at hl 1 rfl) ?_
  refine lv_aload_n hx hb dL_law_833 rfl (lv_at hl 0 rfl) ?_
  refine lv_iload_n hx hb dL_law_834 rfl (lv_at hl 3 rfl) ?_
  refine lv_iconst (v := (1 : Int32)) hx hb dL_law_835 (by decide) ?_
  refine lv_iadd hx hb dL_law_836 ?_
  refine va_sld hx hb hX hbl hbA hS.2.2 h1 dL_law_837 ?_
  refine r_Vi ⟨hx, hb, hml, hown, hts⟩ (c_X6_keep l dC dI ad cA σ _ _ e1) (cwV 1 hts gL_law_X6_keep rfl rfl rfl (by decide +kernel) ⟨(Nat.le_of_ble_eq_true rfl), (Nat.le_of_ble_eq_true rfl)⟩) hK hN hS (by decide) e_0 rfl rfl hl.1 rfl (Nat.le_of_ble_eq_true rfl) dL_law_838 hf (fun H locs hS => ?_)
  have hS : ST dC dI ad cA s σ1 H locs := hS
  refine lv_aload_n hx hb dL_law_841 rfl (lv_at hl 2 rfl) ?_
  refine lv_aload_n hx hb dL_law_842 rfl (lv_at hl 0 rfl) ?_
  refine lv_iload_n hx hb dL_law_843 rfl (lv_at hl 3 rfl) ?_
  refine lv_iconst (v := (1 : Int32)) hx hb dL_law_844 (by decide) ?_
  refine lv_iadd hx hb dL_law_845 ?_
  refine va_sld hx hb hX hbl hbA hS.2.2 h1 dL_law_846 ?_
  refine r_Vi ⟨hx, hb, hml, hown, hts⟩ (c_X7_keep l dC dI ad cA σ1 _ _ e2) (cwV 1 hts gL_law_X7_keep rfl rfl rfl (by decide +kernel) ⟨(Nat.le_of_ble_eq_true rfl), (Nat.le_of_ble_eq_true rfl)⟩) hK hN hS (by decide) e_45 rfl rfl hl.1 rfl (Nat.le_of_ble_eq_true rfl) dL_law_847 hf (fun H locs hS => ?_)
  have hS : ST dC dI ad cA s σ2 H locs := hS
  exact lv_icmp_eq (tgt := 901) hx hb dL_law_850 (by decide) (fun _ => kk _ H locs hV2 hS) (fun c9 => absurd rfl c9)
set_option maxHeartbeats 4000000 in
set_option maxRecDepth 100000 in
theorem law_back {p : Program} {l : Launch} {e : Env} {s : State} {m : MethodId} {below : List Frame} {meth : Method} {c : Code} {H : Heap} {locs : List Loc} {cells slots : Nat} {Q : State → Prop} {ls : Array Slot} {dC : Nat → ClassId} {dI : Nat → Nat → Nat} {ad : Nat → Nat} {cA : Nat → ClassId} {σ : Sg} {b L : Nat} {xs : Nat → Int32} (C : LC p s m meth c b L xs dC dI cA ad) {i : Int32} (h1 : vp_in (i + 1) L) (h2 : vp_in (i + 2) L) (h3 : vp_in (i + 3) L) (h4 : vp_in (i + 4) L) (hV : Inv σ) (hS : ST dC dI ad cA s σ H locs) (hl : lv_has ls 4 [(0, .ref b), (1, .ref (ad 0)), (2, .ref (ad 45)), (3, .int i)]) (hf : cells ≤ room_1.cells ∧ slots ≤ room_1.slots)
    (kk : ∀ (σ2 : Sg) (H1 : Heap) (locs1 : List Loc), Inv σ2 → ST dC dI ad cA s σ2 H1 locs1 → W p l e room_1 s m #[Value.ref b] below meth c H1 locs1 cells slots Q (F0 m 901 ls [])) : W p l e room_1 s m #[Value.ref b] below meth c H locs cells slots Q (F0 m 855 ls []) := by
  obtain ⟨⟨hx, hb, hr, hml, hown, hts0, hX, hbl, hlocks, hgv⟩, hK, hN, had⟩ := C
  have hts : ∀ w ∈ wsL_law, w.before #[Value.ref b] s = true := fun w h => hts0 w (wsL_law_in w h)
  have hbA : ¬ AS ad s.heap.size b := fun q => by
    rcases q with ⟨k, hk, e9⟩ | q
    · have := had k hk
      omega
    · omega
  obtain ⟨r, σ1, σ2, e1, e2, hV2⟩ := S_back (xs (i + 1).toNatClampNeg) hV
  refine lv_aload_n hx hb dL_law_855 rfl (lv_at hl 1 rfl) ?_
  refine lv_aload_n hx hb dL_law_856 rfl (lv_at hl 0 rfl) ?_
  refine lv_iload_n hx hb dL_law_857 rfl (lv_at hl 3 rfl) ?_
  refine lv_iconst (v := (1 : Int32)) hx hb dL_law_858 (by decide) ?_
  refine lv_iadd hx hb dL_law_859 ?_
  refine va_sld hx hb hX hbl hbA hS.2.2 h1 dL_law_860 ?_
  refine r_Vi ⟨hx, hb, hml, hown, hts⟩ (c_X6_back l dC dI ad cA σ _ _ e1) (cwV 1 hts gL_law_X6_back rfl rfl rfl (by decide +kernel) ⟨(Nat.le_of_ble_eq_true rfl), (Nat.le_of_ble_eq_true rfl)⟩) hK hN hS (by decide) e_0 rfl rfl hl.1 rfl (Nat.le_of_ble_eq_true rfl) dL_law_861 hf (fun H locs hS => ?_)
  have hS : ST dC dI ad cA s σ1 H locs := hS
  refine lv_aload_n hx hb dL_law_864 rfl (lv_at hl 2 rfl) ?_
  refine lv_aload_n hx hb dL_law_865 rfl (lv_at hl 0 rfl) ?_
  refine lv_iload_n hx hb dL_law_866 rfl (lv_at hl 3 rfl) ?_
  refine lv_iconst (v := (1 : Int32)) hx hb dL_law_867 (by decide) ?_
  refine lv_iadd hx hb dL_law_868 ?_
  refine va_sld hx hb hX hbl hbA hS.2.2 h1 dL_law_869 ?_
  refine r_Vi ⟨hx, hb, hml, hown, hts⟩ (c_X7_back l dC dI ad cA σ1 _ _ e2) (cwV 1 hts gL_law_X7_back rfl rfl rfl (by decide +kernel) ⟨(Nat.le_of_ble_eq_true rfl), (Nat.le_of_ble_eq_true rfl)⟩) hK hN hS (by decide) e_45 rfl rfl hl.1 rfl (Nat.le_of_ble_eq_true rfl) dL_law_870 hf (fun H locs hS => ?_)
  have hS : ST dC dI ad cA s σ2 H locs := hS
  exact lv_icmp_eq (tgt := 901) hx hb dL_law_873 (by decide) (fun _ => kk _ H locs hV2 hS) (fun c9 => absurd rfl c9)
set_option maxHeartbeats 4000000 in
set_option maxRecDepth 100000 in
theorem law_count {p : Program} {l : Launch} {e : Env} {s : State} {m : MethodId} {below : List Frame} {meth : Method} {c : Code} {H : Heap} {locs : List Loc} {cells slots : Nat} {Q : State → Prop} {ls : Array Slot} {dC : Nat → ClassId} {dI : Nat → Nat → Nat} {ad : Nat → Nat} {cA : Nat → ClassId} {σ : Sg} {b L : Nat} {xs : Nat → Int32} (C : LC p s m meth c b L xs dC dI cA ad) {i : Int32} (h1 : vp_in (i + 1) L) (h2 : vp_in (i + 2) L) (h3 : vp_in (i + 3) L) (h4 : vp_in (i + 4) L) (hV : Inv σ) (hS : ST dC dI ad cA s σ H locs) (hl : lv_has ls 4 [(0, .ref b), (1, .ref (ad 0)), (2, .ref (ad 45)), (3, .int i)]) (hf : cells ≤ room_1.cells ∧ slots ≤ room_1.slots)
    (kk : ∀ (σ2 : Sg) (H1 : Heap) (locs1 : List Loc), Inv σ2 → ST dC dI ad cA s σ2 H1 locs1 → W p l e room_1 s m #[Value.ref b] below meth c H1 locs1 cells slots Q (F0 m 901 ls [])) : W p l e room_1 s m #[Value.ref b] below meth c H locs cells slots Q (F0 m 878 ls []) := by
  obtain ⟨⟨hx, hb, hr, hml, hown, hts0, hX, hbl, hlocks, hgv⟩, hK, hN, had⟩ := C
  have hts : ∀ w ∈ wsL_law, w.before #[Value.ref b] s = true := fun w h => hts0 w (wsL_law_in w h)
  have hbA : ¬ AS ad s.heap.size b := fun q => by
    rcases q with ⟨k, hk, e9⟩ | q
    · have := had k hk
      omega
    · omega
  obtain ⟨r, σ2, e1, e2, hV2⟩ := S_count (xs (i + 1).toNatClampNeg) hV
  refine lv_aload_n hx hb dL_law_878 rfl (lv_at hl 1 rfl) ?_
  refine lv_aload_n hx hb dL_law_879 rfl (lv_at hl 0 rfl) ?_
  refine lv_iload_n hx hb dL_law_880 rfl (lv_at hl 3 rfl) ?_
  refine lv_iconst (v := (1 : Int32)) hx hb dL_law_881 (by decide) ?_
  refine lv_iadd hx hb dL_law_882 ?_
  refine va_sld hx hb hX hbl hbA hS.2.2 h1 dL_law_883 ?_
  refine r_ViP ⟨hx, hb, hml, hown, hts⟩ (c_X6_count l dC dI ad cA σ _ _ e1) (cwV 1 hts gL_law_X6_count rfl rfl rfl (by decide +kernel) ⟨(Nat.le_of_ble_eq_true rfl), (Nat.le_of_ble_eq_true rfl)⟩) hK hN hS (by decide) e_0 rfl rfl hl.1 rfl (Nat.le_of_ble_eq_true rfl) dL_law_884 hf (fun H locs hS => ?_)
  have hS : ST dC dI ad cA s σ H locs := hS
  refine lv_aload_n hx hb dL_law_887 rfl (lv_at hl 2 rfl) ?_
  refine lv_aload_n hx hb dL_law_888 rfl (lv_at hl 0 rfl) ?_
  refine lv_iload_n hx hb dL_law_889 rfl (lv_at hl 3 rfl) ?_
  refine lv_iconst (v := (1 : Int32)) hx hb dL_law_890 (by decide) ?_
  refine lv_iadd hx hb dL_law_891 ?_
  refine va_sld hx hb hX hbl hbA hS.2.2 h1 dL_law_892 ?_
  refine r_Vi ⟨hx, hb, hml, hown, hts⟩ (c_X7_count l dC dI ad cA σ _ _ e2) (cwV 1 hts gL_law_X7_count rfl rfl rfl (by decide +kernel) ⟨(Nat.le_of_ble_eq_true rfl), (Nat.le_of_ble_eq_true rfl)⟩) hK hN hS (by decide) e_45 rfl rfl hl.1 rfl (Nat.le_of_ble_eq_true rfl) dL_law_893 hf (fun H locs hS => ?_)
  have hS : ST dC dI ad cA s σ2 H locs := hS
  exact lv_icmp_eq (tgt := 901) hx hb dL_law_896 (by decide) (fun _ => kk _ H locs hV2 hS) (fun c9 => absurd rfl c9)
