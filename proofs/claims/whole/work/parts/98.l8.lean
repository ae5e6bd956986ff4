set_option maxHeartbeats 4000000 in
set_option maxRecDepth 100000 in
theorem whole_start {p : Program} {e : Env} {s : State} {m : MethodId} {below : List Frame} {meth : Method} {c : Code} (l : Launch) (hflags : l.flags = flags0) {b L : Nat} {xs : Nat → Int32} (hL : L ≤ 2560) (C0 : lw_At p s m meth c b L xs) : W p l e room_1 s m #[Value.ref b] below meth c s.heap [] 0 0 (lw_Z below #[Value.ref b] s) (entryFrame m ([Value.ref b] : List Value).toArray 4) := by
  obtain ⟨hx, hb, hr, hml, hown, hts0, hX, hbl, hlocks, hgv⟩ := id C0
  have hts : ∀ w ∈ wsL_law, w.before #[Value.ref b] s = true := fun w h => hts0 w (wsL_law_in w h)
  have hA : ∀ q : Nat, s.heap.size ≤ q → (fun q : Nat => s.heap.size ≤ q) q := fun _ h => h
  obtain ⟨dC, dI, cA, hK, hN, hO⟩ := law_known hts0
  have hS : KS dC dI (fun q : Nat => s.heap.size ≤ q) s [] s.heap [] := ⟨fun k q h => by simp at h, ⟨fun i j p q h => by simp at h, fun k q h => by simp at h⟩, va_S.rf⟩
  have hl := lv_entry ([Value.ref b]) (n := 4) (Nat.le_of_ble_eq_true rfl)
  rw [lg_entry_eq]
  generalize (lg_sl ([Value.ref b]) ++ List.replicate (4 - (lg_sl ([Value.ref b])).length) Slot.unset).toArray = ls at hl ⊢
  have hl : lv_has ls 4 [(0, .ref b)] := hl
  refine k_new (ci := 6) (fs := [.null, .null, .null, .null, .null, .null, .null, .null, .null, .null, .int 0, .null, .null]) (C := RX6) (T := TX6) (N := 13) hx hb hts0 inX6 tyX6 tyX6_ok hown (hts0 (.classLink RL 7 RX6) (wsL_i1 _ (by decide +kernel))) (hts0 (.instantiable RX6 13) (wsL_i1 _ (by decide +kernel))) (hts0 (.initialized RX6) (wsL_i1 _ (by decide +kernel))) hK hS hA rfl (by decide) (Nat.le_of_ble_eq_true rfl) (Nat.le_of_ble_eq_true rfl) dL_law_0 (fun q0 H hS => ?_)
  refine lv_dup hx hb dL_law_3 rfl ?_
  refine k_callI (wr := []) (h1 := q0) (x := .inr (6, [.null, .null, .null, .null, .null, .null, .null, .null, .null, .null, .int 0, .null, .null])) ⟨hx, hb, hml, hown, hts⟩ (k_X6_init l dC dI cA q0) (cwI 0 hts gL_law_X6_init rfl rfl rfl (hts0 (.initialized RX6) (wsL_i1 _ (by decide +kernel))) (hts0 (.methodLink RL 9 yX6_init) (wsL_i1 _ (by decide +kernel))) (hts0 (.instanceMethod yX6_init) (wsL_i1 _ (by decide +kernel))) rfl (by decide +kernel) ⟨Nat.le_of_ble_eq_true rfl, Nat.le_of_ble_eq_true rfl⟩) hK hO hS hA hl.1 (Nat.le_of_ble_eq_true rfl) dL_law_4 ⟨Nat.le_of_ble_eq_true rfl, Nat.le_of_ble_eq_true rfl⟩ (fun u H locs hS => ?_)
  obtain ⟨u, hu⟩ := u
  have hS : KS dC dI (fun q : Nat => s.heap.size ≤ q) s (ord6.map (cellAt cA u)) H locs := hS
  refine lv_astore_n (lv' := [(1, .ref q0), (0, .ref b)]) hx hb dL_law_7 rfl hl (by decide) rfl (fun ls hl => ?_)
  refine k_new (ci := 7) (fs := [.null, .int 0, .int 0, .null, .null, .int 0, .null, .int 0, .int 0, .int 0, .int 0, .int 0, .int 0, .null, .null, .null, .null, .null, .null]) (C := RX7) (T := TX7) (N := 19) hx hb hts0 inX7 tyX7 tyX7_ok hown (hts0 (.classLink RL 10 RX7) (wsL_i1 _ (by decide +kernel))) (hts0 (.instantiable RX7 19) (wsL_i1 _ (by decide +kernel))) (hts0 (.initialized RX7) (wsL_i1 _ (by decide +kernel))) hK hS hA rfl (by decide) (Nat.le_of_ble_eq_true rfl) (Nat.le_of_ble_eq_true rfl) dL_law_8 (fun q1 H hS => ?_)
  refine lv_dup hx hb dL_law_11 rfl ?_
  refine k_callI (wr := ord6.map (cellAt cA u)) (h1 := q1) (x := .inr (7, [.null, .int 0, .int 0, .null, .null, .int 0, .null, .int 0, .int 0, .int 0, .int 0, .int 0, .int 0, .null, .null, .null, .null, .null, .null])) ⟨hx, hb, hml, hown, hts⟩ (k_X7_init l dC dI cA q1) (cwI 0 hts gL_law_X7_init rfl rfl rfl (hts0 (.initialized RX7) (wsL_i1 _ (by decide +kernel))) (hts0 (.methodLink RL 12 yX7_init) (wsL_i4 _ (by decide +kernel))) (hts0 (.instanceMethod yX7_init) (wsL_i4 _ (by decide +kernel))) rfl (by decide +kernel) ⟨Nat.le_of_ble_eq_true rfl, Nat.le_of_ble_eq_true rfl⟩) hK hO hS hA hl.1 (Nat.le_of_ble_eq_true rfl) dL_law_12 ⟨Nat.le_of_ble_eq_true rfl, Nat.le_of_ble_eq_true rfl⟩ (fun v H locs hS => ?_)
  obtain ⟨v, hv⟩ := v
  have hS : KS dC dI (fun q : Nat => s.heap.size ≤ q) s (ord6.map (cellAt cA u) ++ ord7.map (cellAt cA v)) H locs := hS
  obtain ⟨hT, had⟩ := KS_ST (WL_by (KS_join hS))
  have hq0 : q0 = adJ u v 0 := hu.symm
  have hq1 : q1 = adJ u v 45 := hv.symm
  refine lv_astore_n (lv' := [(2, .ref q1), (1, .ref q0), (0, .ref b)]) hx hb dL_law_15 rfl hl (by decide) rfl (fun ls hl => ?_)
  refine lv_iconst (v := (0 : Int32)) hx hb dL_law_16 (by decide) ?_
  refine lv_istore_n (lv' := [(3, .int (0 : Int32)), (2, .ref q1), (1, .ref q0), (0, .ref b)]) hx hb dL_law_17 rfl hl (by decide) rfl (fun ls hl => ?_)
  rw [hq0, hq1] at hl
  exact law_loop (dC := dC) (dI := dI) (ad := adJ u v) (cA := cA) hL ⟨C0, hK, hN, had⟩ ⟨Nat.le_of_ble_eq_true rfl, Nat.le_of_ble_eq_true rfl⟩ (Nat.le_of_ble_eq_true rfl) (Nat.le_of_ble_eq_true rfl) (L + 1) 0 σ0 H locs ls (Nat.zero_le _) (by omega) Inv0 hT (lv_sub hl [3, 2, 1, 0] rfl)
