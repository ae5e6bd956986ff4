/-! the law's loop -/
theorem lw_len {L k : Nat} (hL : L ≤ 2560) (hk : k ≤ 2565) (h : ¬ (nI L - 5 < nI k)) : k + 5 ≤ L := by
  by_cases h5 : 5 ≤ L
  · have e : nI L - 5 = nI (L - 5) := by
      have e1 : nI L = nI (L - 5) + nI 5 := by
        rw [nI_add]
        congr 1
        omega
      rw [e1]
      exact Int32.add_sub_cancel _ _
    rw [e, nI_ltI (by omega) (by omega)] at h
    omega
  · exfalso
    apply h
    rw [Int32.lt_iff_toInt_lt, nI_toInt (by omega)]
    have h9 : (nI L - 5).toInt < 0 := by
      rcases (show L = 0 ∨ L = 1 ∨ L = 2 ∨ L = 3 ∨ L = 4 by omega) with rfl | rfl | rfl | rfl | rfl <;> decide
    omega
set_option maxHeartbeats 4000000 in
set_option maxRecDepth 100000 in
theorem law_loop {p : Program} {l : Launch} {e : Env} {s : State} {m : MethodId} {below : List Frame} {meth : Method} {c : Code} {cells slots : Nat} {dC : Nat → ClassId} {dI : Nat → Nat → Nat} {ad : Nat → Nat} {cA : Nat → ClassId} {b L : Nat} {xs : Nat → Int32} (hL : L ≤ 2560) (C : LC p s m meth c b L xs dC dI cA ad) (hf : cells ≤ room_1.cells ∧ slots ≤ room_1.slots) (hc9 : cells ≤ 600000) (hs9 : slots ≤ 7302250) :
    ∀ (n k : Nat) (σ : Sg) (H : Heap) (locs : List Loc) (ls : Array Slot), k ≤ L → L < k + n → Inv σ → ST dC dI ad cA s σ H locs → lv_has ls 4 [(0, .ref b), (1, .ref (ad 0)), (2, .ref (ad 45)), (3, .int (nI k))] → W p l e room_1 s m #[Value.ref b] below meth c H locs cells slots (lw_Z below #[Value.ref b] s) (F0 m 18 ls []) := by
  obtain ⟨⟨hx, hb, hr, hml, hown, hts0, hX, hbl, hlocks, hgv⟩, hK, hN, had⟩ := id C
  have hbA : ¬ AS ad s.heap.size b := fun q => by
    rcases q with ⟨k, hk, e9⟩ | q
    · have := had k hk
      omega
    · omega
  intro n
  induction n with
  | zero =>
    intro k σ H locs ls h1 h2
    exact absurd h2 (by omega)
  | succ n ih =>
    intro k σ H locs ls hk hn hV hS hl
    refine lv_iload_n hx hb dL_law_18 rfl (lv_at hl 3 rfl) ?_
    refine lv_aload_n hx hb dL_law_19 rfl (lv_at hl 0 rfl) ?_
    refine va_slen hx hb hX hbl hbA hS.2.2 dL_law_20 ?_
    refine lv_iconst (v := (5 : Int32)) hx hb dL_law_21 (by decide) ?_
    refine lv_isub hx hb dL_law_22 ?_
    refine lv_icmp_gt (tgt := 907) hx hb dL_law_23 (by decide) (fun _ => ?_) (fun c10 => ?_)
    · refine lv_iconst (v := 1) hx hb dL_law_907 (by decide) ?_
      refine va_forget (fun q hq => ?_) ?_
      · rcases hS.2.2.2.2 q hq with ⟨k9, hk9, e9⟩ | h9
        · rw [e9]
          exact had k9 hk9
        · exact h9
      refine W.widen (k := 600000) (n := 7302250) hc9 hs9 ?_
      exact lw_ret hx hb hr hlocks dL_law_908
    · have hlt : k + 5 ≤ L := lw_len hL (by omega) c10
      have h0 : vp_in (nI k) L := vp_in_nI (by omega) (by omega)
      have h1 : vp_in (nI k + 1) L := by rw [show nI k + 1 = nI (k + 1) from nI_add k 1]; exact vp_in_nI (by omega) (by omega)
      have h2 : vp_in (nI k + 2) L := by rw [show nI k + 2 = nI (k + 2) from nI_add k 2]; exact vp_in_nI (by omega) (by omega)
      have h3 : vp_in (nI k + 3) L := by rw [show nI k + 3 = nI (k + 3) from nI_add k 3]; exact vp_in_nI (by omega) (by omega)
      have h4 : vp_in (nI k + 4) L := by rw [show nI k + 4 = nI (k + 4) from nI_add k 4]; exact vp_in_nI (by omega) (by omega)
      have next : ∀ (σ2 : Sg) (H1 : Heap) (locs1 : List Loc), Inv σ2 → ST dC dI ad cA s σ2 H1 locs1 → W p l e room_1 s m #[Value.ref b] below meth c H1 locs1 cells slots (lw_Z below #[Value.ref b] s) (F0 m 901 ls []) := by
        intro σ2 H1 locs1 hV2 hS2
        refine lv_iinc (v := nI (k + 5)) (lv' := [(3, .int (nI (k + 5))), (0, .ref b), (1, .ref (ad 0)), (2, .ref (ad 45))]) hx hb dL_law_901 hl (k := 3) rfl (by rw [show Int32.ofInt 5 = nI 5 by decide]; exact nI_add k 5) (by decide) rfl (fun ls hl => ?_)
        refine lv_goto (tgt := 18) hx hb dL_law_904 (by decide) ?_
        exact ih (k + 5) σ2 H1 locs1 ls hlt (by omega) hV2 hS2 (lv_sub hl [1, 2, 3, 0] rfl)
      refine lv_aload_n hx hb dL_law_26 rfl (lv_at hl 0 rfl) ?_
      refine lv_iload_n hx hb dL_law_27 rfl (lv_at hl 3 rfl) ?_
      refine va_sld hx hb hX hbl hbA hS.2.2 h0 dL_law_28 ?_
      refine lv_bipush (v := (31 : Int32)) hx hb dL_law_29 (by decide) ?_
      refine lv_iand hx hb dL_law_31 ?_
      refine lv_topi (fun x ex => ?_)
      by_cases q0 : x = (0 : Int32)
      · refine lv_tableIn (tgt := 148) hx hb dL_law_32 (by rw [q0]; decide) (by rw [q0]; decide) (by rw [q0]; rfl) (by decide) ?_
        exact law_type C h1 h2 h3 h4 hV hS hl hf next
      by_cases q1 : x = (1 : Int32)
      · refine lv_tableIn (tgt := 171) hx hb dL_law_32 (by rw [q1]; decide) (by rw [q1]; decide) (by rw [q1]; rfl) (by decide) ?_
        exact law_clear C h1 h2 h3 h4 hV hS hl hf next
      by_cases q2 : x = (2 : Int32)
      · refine lv_tableIn (tgt := 184) hx hb dL_law_32 (by rw [q2]; decide) (by rw [q2]; decide) (by rw [q2]; rfl) (by decide) ?_
        exact law_net C h1 h2 h3 h4 hV hS hl hf next
      by_cases q3 : x = (3 : Int32)
      · refine lv_tableIn (tgt := 197) hx hb dL_law_32 (by rw [q3]; decide) (by rw [q3]; decide) (by rw [q3]; rfl) (by decide) ?_
        exact law_line C h1 h2 h3 h4 hV hS hl hf next
      by_cases q4 : x = (4 : Int32)
      · refine lv_tableIn (tgt := 230) hx hb dL_law_32 (by rw [q4]; decide) (by rw [q4]; decide) (by rw [q4]; rfl) (by decide) ?_
        exact law_width C h1 h2 h3 h4 hV hS hl hf next
      by_cases q5 : x = (5 : Int32)
      · refine lv_tableIn (tgt := 263) hx hb dL_law_32 (by rw [q5]; decide) (by rw [q5]; decide) (by rw [q5]; rfl) (by decide) ?_
        exact law_lays C h1 h2 h3 h4 hV hS hl hf next
      by_cases q6 : x = (6 : Int32)
      · refine lv_tableIn (tgt := 306) hx hb dL_law_32 (by rw [q6]; decide) (by rw [q6]; decide) (by rw [q6]; rfl) (by decide) ?_
        exact law_widens C h1 h2 h3 h4 hV hS hl hf next
      by_cases q7 : x = (7 : Int32)
      · refine lv_tableIn (tgt := 339) hx hb dL_law_32 (by rw [q7]; decide) (by rw [q7]; decide) (by rw [q7]; rfl) (by decide) ?_
        exact law_cuts C h1 h2 h3 h4 hV hS hl hf next
      by_cases q8 : x = (8 : Int32)
      · refine lv_tableIn (tgt := 362) hx hb dL_law_32 (by rw [q8]; decide) (by rw [q8]; decide) (by rw [q8]; rfl) (by decide) ?_
        exact law_undo C h1 h2 h3 h4 hV hS hl hf next
      by_cases q9 : x = (9 : Int32)
      · refine lv_tableIn (tgt := 375) hx hb dL_law_32 (by rw [q9]; decide) (by rw [q9]; decide) (by rw [q9]; rfl) (by decide) ?_
        exact law_hitting C h1 h2 h3 h4 hV hS hl hf next
      by_cases q10 : x = (10 : Int32)
      · refine lv_tableIn (tgt := 419) hx hb dL_law_32 (by rw [q10]; decide) (by rw [q10]; decide) (by rw [q10]; rfl) (by decide) ?_
        exact law_between C h1 h2 h3 h4 hV hS hl hf next
      by_cases q11 : x = (11 : Int32)
      · refine lv_tableIn (tgt := 473) hx hb dL_law_32 (by rw [q11]; decide) (by rw [q11]; decide) (by rw [q11]; rfl) (by decide) ?_
        exact law_ahead C h1 h2 h3 h4 hV hS hl hf next
      by_cases q12 : x = (12 : Int32)
      · refine lv_tableIn (tgt := 527) hx hb dL_law_32 (by rw [q12]; decide) (by rw [q12]; decide) (by rw [q12]; rfl) (by decide) ?_
        exact law_walks C h1 h2 h3 h4 hV hS hl hf next
      by_cases q13 : x = (13 : Int32)
      · refine lv_tableIn (tgt := 571) hx hb dL_law_32 (by rw [q13]; decide) (by rw [q13]; decide) (by rw [q13]; rfl) (by decide) ?_
        exact law_trees C h1 h2 h3 h4 hV hS hl hf next
      by_cases q14 : x = (14 : Int32)
      · refine lv_tableIn (tgt := 585) hx hb dL_law_32 (by rw [q14]; decide) (by rw [q14]; decide) (by rw [q14]; rfl) (by decide) ?_
        exact law_share C h1 h2 h3 h4 hV hS hl hf next
      by_cases q15 : x = (15 : Int32)
      · refine lv_tableIn (tgt := 619) hx hb dL_law_32 (by rw [q15]; decide) (by rw [q15]; decide) (by rw [q15]; rfl) (by decide) ?_
        exact law_rank C h1 h2 h3 h4 hV hS hl hf next
      by_cases q16 : x = (16 : Int32)
      · refine lv_tableIn (tgt := 642) hx hb dL_law_32 (by rw [q16]; decide) (by rw [q16]; decide) (by rw [q16]; rfl) (by decide) ?_
        exact law_reduced C h1 h2 h3 h4 hV hS hl hf next
      by_cases q17 : x = (17 : Int32)
      · refine lv_tableIn (tgt := 686) hx hb dL_law_32 (by rw [q17]; decide) (by rw [q17]; decide) (by rw [q17]; rfl) (by decide) ?_
        exact law_worst C h1 h2 h3 h4 hV hS hl hf next
      by_cases q18 : x = (18 : Int32)
      · refine lv_tableIn (tgt := 719) hx hb dL_law_32 (by rw [q18]; decide) (by rw [q18]; decide) (by rw [q18]; rfl) (by decide) ?_
        exact law_odds C h1 h2 h3 h4 hV hS hl hf next
      by_cases q19 : x = (19 : Int32)
      · refine lv_tableIn (tgt := 753) hx hb dL_law_32 (by rw [q19]; decide) (by rw [q19]; decide) (by rw [q19]; rfl) (by decide) ?_
        exact law_sees C h1 h2 h3 h4 hV hS hl hf next
      by_cases q20 : x = (20 : Int32)
      · refine lv_tableIn (tgt := 806) hx hb dL_law_32 (by rw [q20]; decide) (by rw [q20]; decide) (by rw [q20]; rfl) (by decide) ?_
        exact law_forget C h1 h2 h3 h4 hV hS hl hf next
      by_cases q21 : x = (21 : Int32)
      · refine lv_tableIn (tgt := 819) hx hb dL_law_32 (by rw [q21]; decide) (by rw [q21]; decide) (by rw [q21]; rfl) (by decide) ?_
        exact law_unseen C h1 h2 h3 h4 hV hS hl hf next
      by_cases q22 : x = (22 : Int32)
      · refine lv_tableIn (tgt := 832) hx hb dL_law_32 (by rw [q22]; decide) (by rw [q22]; decide) (by rw [q22]; rfl) (by decide) ?_
        exact law_keep C h1 h2 h3 h4 hV hS hl hf next
      by_cases q23 : x = (23 : Int32)
      · refine lv_tableIn (tgt := 855) hx hb dL_law_32 (by rw [q23]; decide) (by rw [q23]; decide) (by rw [q23]; rfl) (by decide) ?_
        exact law_back C h1 h2 h3 h4 hV hS hl hf next
      by_cases q24 : x = (24 : Int32)
      · refine lv_tableIn (tgt := 878) hx hb dL_law_32 (by rw [q24]; decide) (by rw [q24]; decide) (by rw [q24]; rfl) (by decide) ?_
        exact law_count C h1 h2 h3 h4 hV hS hl hf next
      refine lv_tableOut (tgt := 901) hx hb dL_law_32 (sw_out (n := 24) (fun j hj => by rcases (show j = 0 ∨ j = 1 ∨ j = 2 ∨ j = 3 ∨ j = 4 ∨ j = 5 ∨ j = 6 ∨ j = 7 ∨ j = 8 ∨ j = 9 ∨ j = 10 ∨ j = 11 ∨ j = 12 ∨ j = 13 ∨ j = 14 ∨ j = 15 ∨ j = 16 ∨ j = 17 ∨ j = 18 ∨ j = 19 ∨ j = 20 ∨ j = 21 ∨ j = 22 ∨ j = 23 ∨ j = 24 by omega) with h9 | h9 | h9 | h9 | h9 | h9 | h9 | h9 | h9 | h9 | h9 | h9 | h9 | h9 | h9 | h9 | h9 | h9 | h9 | h9 | h9 | h9 | h9 | h9 | h9 <;> subst_vars <;> assumption)) (by decide) ?_
      exact next σ H locs hV hS
