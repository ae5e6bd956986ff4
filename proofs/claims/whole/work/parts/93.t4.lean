/-! the class's sums -/
theorem ord_inj' : ∀ n, n < 7 → ∀ v, v < n → ∀ u, u < n → u ≠ v → (List.range (n - 1)).all (fun a => (List.range (n - 1)).all (fun b => decide (lat (ord n v u) a = lat (ord n v u) b → a = b))) = true := by decide +kernel
theorem ord_inj {n v u : Nat} (hn : n ≤ 6) (hv : v < n) (hu : u < n) (huv : u ≠ v) {a b : Nat} (ha : a < n - 1) (hb : b < n - 1) (h : lat (ord n v u) a = lat (ord n v u) b) : a = b := of_decide_eq_true (List.all_eq_true.mp (List.all_eq_true.mp (ord_inj' n (by omega) v hv u hu huv) a (List.mem_range.mpr ha)) b (List.mem_range.mpr hb)) h
theorem range_lat (l : List Nat) : ∀ k, k ≤ l.length → (List.range k).map (lat l) = l.take k := by
  intro k
  induction k with
  | zero => intro _; rfl
  | succ k ih =>
    intro h
    rw [List.range_succ, List.map_append, ih (by omega), List.take_succ, List.getElem?_eq_getElem (by omega)]
    congr 1
    show [lat l k] = [l[k]]
    unfold lat
    rw [List.getD_eq_getElem?_getD, List.getElem?_eq_getElem (by omega)]
    rfl
theorem Dk_gm {n v u : Nat} {w : Nat → Nat → Nat} (h2 : 2 ≤ n) (hn : n ≤ 6) (hv : v < n) (hu : u < n) (huv : u ≠ v) (d : Nat → Nat) {k : Nat} (hk : k ≤ n - 1) : Dk (gm n w (ord n v u)) k = pv n w d v u k := by
  have hlen := ord_len h2 hn hv hu huv
  unfold Dk pv
  rw [← range_lat _ k (by omega), dtI_map]
  refine dtI_congr _ _ (fun a ha b hb => ?_)
  have ha' := List.mem_range.mp ha
  have hb' := List.mem_range.mp hb
  have q := lat_b (ord_b (v := v) hn hu) (i := b) (by omega)
  have q9 : ¬ lat (ord n v u) b = 9 := by omega
  unfold gm lpl
  rw [if_neg q9]
  by_cases c : a = b
  · rw [if_pos c, if_pos (show lat (ord n v u) a = lat (ord n v u) b by rw [c])]
  · rw [if_neg c, if_neg (fun q => c (ord_inj hn hv hu huv (by omega) (by omega) q))]
theorem gm_bd {n : Nat} {w : Nat → Nat → Nat} {l : List Nat} (hw : wok n w) (hb : ∀ a ∈ l, a < n) {i j : Nat} (hi : i < l.length) : (gm n w l i j).natAbs ≤ 45 := by
  unfold gm
  split
  · have := dg_le hw (lat_b hb hi)
    omega
  · have := hw.2.2.2.2.1 (lat l i) (lat l j)
    omega
theorem f_treeSum_yes {σ : Sg} {kn n : Nat} {w : Nat → Nat → Nat} (hk : kn = 0 ∨ kn = 2) (hw : wok n w) (hN : NetAt σ kn n w) : ∃ σ', f_X0_treeSum σ kn = some (lN (ss (tT n) (Ln n w)), σ') ∧ FrB σ σ' := by
  have hn := hw.2.1
  have h2 := hw.1
  have hlen := ord_len (n := n) (v := 0) (u := 1) h2 hn (by omega) (by omega) (by omega)
  obtain ⟨σ1, a1, a2, a3, a4⟩ := f_load_yes (v := 0) (u := 1) hk hw hN (by omega) (by omega) (by omega)
  obtain ⟨z, σ2, b1, b2, b3⟩ := f_det_yes (σ := σ1) (M := gm n w (ord n 0 1)) (s := n - 1) (fun i j hi _ => gm_bd hw (ord_b hn (by omega)) (by omega)) (by omega) (by omega) (by rw [a3.1, hlen]) a4
  refine ⟨σ2, ?_, a2.tr b2.b⟩
  unfold f_X0_treeSum
  rw [il_0, il_1, a1, Option.bind_some, b1, Option.bind_some]
  dsimp only
  rcases b3 with ⟨rfl, -⟩ | ⟨rfl, k, hk1, hk2⟩
  · rw [Dk_gm h2 hn (by omega) (by omega) (by omega) (fun _ => 0) (Nat.le_refl _), pv_last h2 hn hw.2.2.1 hw.2.2.2.1, lN_of]
  · rw [Dk_gm h2 hn (by omega) (by omega) (by omega) (fun _ => 0) (by omega)] at hk2
    rw [pv_down h2 hn hw.2.2.1 hw.2.2.2.1 (fun _ => 0) (n - 1 - (k + 1)) k (by omega) (by omega)]
    rfl
/-- the last column given -/
def gmd (n : Nat) (w : Nat → Nat → Nat) (d : Nat → Nat) (l : List Nat) (i j : Nat) : Int := if j = l.length - 1 then (d (lat l i) : Int) else gm n w l i j
theorem Dk_gmd {n v u : Nat} {w : Nat → Nat → Nat} (h2 : 2 ≤ n) (hn : n ≤ 6) (hv : v < n) (hu : u < n) (huv : u ≠ v) (d : Nat → Nat) {k : Nat} (hk : k + 1 < n) : Dk (gmd n w d (ord n v u)) k = pv n w d v u k := by
  have hlen := ord_len h2 hn hv hu huv
  rw [← Dk_gm h2 hn hv hu huv d (by omega)]
  unfold Dk
  refine dtI_congr _ _ (fun a ha b hb => ?_)
  have hb' := List.mem_range.mp hb
  unfold gmd
  rw [if_neg (by omega)]
theorem Dk_last {n v u : Nat} {w : Nat → Nat → Nat} (h2 : 2 ≤ n) (hn : n ≤ 6) (hv : v < n) (hu : u < n) (huv : u ≠ v) (d : Nat → Nat) : Dk (gmd n w d (ord n v u)) (n - 1) = dtI (lpl n w d) (ord n v u) ((ord n v u).dropLast ++ [9]) := by
  have hlen := ord_len h2 hn hv hu huv
  have e1 : (List.range (n - 1)).map (lat (ord n v u)) = ord n v u := by
    rw [range_lat _ _ (by omega), List.take_of_length_le (by omega)]
  have e2 : (List.range (n - 1)).map (fun j => if j = n - 2 then 9 else lat (ord n v u) j) = (ord n v u).dropLast ++ [9] := by
    rw [show n - 1 = (n - 2) + 1 by omega, List.range_succ, List.map_append, List.map_cons, if_pos rfl, List.map_nil, List.dropLast_eq_take, hlen, show n - 1 - 1 = n - 2 by omega, ← range_lat _ _ (by omega)]
    congr 1
    refine List.map_congr_left (fun x hx => ?_)
    have := List.mem_range.mp hx
    rw [if_neg (by omega)]
  have e3 := dtI_map (lpl n w d) (lat (ord n v u)) (fun j => if j = n - 2 then 9 else lat (ord n v u) j) (List.range (n - 1)) (List.range (n - 1))
  rw [e1, e2] at e3
  rw [e3]
  unfold Dk
  refine dtI_congr _ _ (fun a ha b hb => ?_)
  have ha' := List.mem_range.mp ha
  have hb' := List.mem_range.mp hb
  unfold gmd lpl
  rw [hlen, show n - 1 - 1 = n - 2 by omega]
  by_cases c : b = n - 2
  · rw [if_pos c, if_pos c, if_pos rfl]
  · have q := lat_b (ord_b (v := v) hn hu) (i := b) (by omega)
    have q9 : ¬ lat (ord n v u) b = 9 := by omega
    rw [if_neg c, if_neg c, if_neg q9]
    unfold gm
    by_cases c2 : a = b
    · rw [if_pos c2, if_pos (show lat (ord n v u) a = lat (ord n v u) b by rw [c2])]
    · rw [if_neg c2, if_neg (fun q => c2 (ord_inj hn hv hu huv (by omega) (by omega) q))]
theorem f_gdet_yes {σ : Sg} {n v u : Nat} {w : Nat → Nat → Nat} {d : Nat → Nat} (hw : wok n w) (hC : CC n (Ln n w)) (hv : v < n) (hu : u < n) (huv : u ≠ v) (hd : ∀ x, x < n → d x ≤ 45) (h15 : gI σ 15 = nI (n - 1)) (h : ∀ i j, i < n - 1 → j < n - 1 → gJ σ (30 + i) j = Int64.ofInt (gmd n w d (ord n v u) i j)) : ∃ σ', f_X0_determinant σ = some (lN (ss (sT n d u v) (Ln n w)), σ') ∧ FrJ σ σ' := by
  have hn := hw.2.1
  have h2 := hw.1
  have hlen := ord_len h2 hn hv hu huv
  obtain ⟨z, σ2, b1, b2, b3⟩ := f_det_yes (σ := σ) (M := gmd n w d (ord n v u)) (s := n - 1) (fun i j hi _ => by
    unfold gmd
    split
    · have := hd (lat (ord n v u) i) (lat_b (ord_b (v := v) hn hu) (by omega))
      omega
    · exact gm_bd hw (ord_b hn hu) (by omega)) (by omega) (by omega) h15 h
  refine ⟨σ2, ?_, b2⟩
  rw [b1]
  rcases b3 with ⟨rfl, -⟩ | ⟨rfl, k, hk1, hk2⟩
  · rw [Dk_last h2 hn hv hu huv, mt_b h2 hn hw.2.2.1 hw.2.2.2.1 d hu hv huv, lN_of]
  · rw [Dk_gmd h2 hn hv hu huv d (by omega)] at hk2
    have := pv_pos2 h2 hn hw.2.2.1 hw.2.2.2.1 hv hu huv d hC (k := k) (by omega)
    omega
theorem sT_same (n : Nat) (d : Nat → Nat) (u : Nat) (L : List (Nat × Nat × Nat)) : ss (sT n d u u) L = 0 := ss_zero L _ (fun S => by
  unfold sT
  rw [if_neg (fun q => q.2 rfl)])
theorem gmd_set {σ : Sg} {n : Nat} {w : Nat → Nat → Nat} {d : Nat → Nat} {l : List Nat} {kn : Nat} (hk : kn = 0 ∨ kn = 2) (hw : wok n w) (hN : NetAt σ kn n w) (hO : OrdAt σ l) (hl1 : 1 ≤ l.length) (hl : l.length ≤ 5) (hb : ∀ a ∈ l, a < n) {body : Int32 × Sg → Option ((Int32 × Sg) ⊕ Sg)} (hbody1 : ∀ t σ1, t < l.length → FrJ σ σ1 → body (nI t, σ1) = some (.inl (nI (t + 1), pJ σ1 (30 + t) (l.length - 1) (Int64.ofInt (d (lat l t)))))) (hbody2 : ∀ σ1, FrJ σ σ1 → body (nI l.length, σ1) = some (.inr σ1)) (h : ∀ i j, i < l.length → j < l.length → gJ σ (30 + i) j = Int64.ofInt (gm n w l i j)) : ∃ σ', wl body FU ((0 : Int32), σ) = some σ' ∧ (FrJ σ σ' ∧ ∀ i j, i < l.length → j < l.length → gJ σ' (30 + i) j = Int64.ofInt (gmd n w d l i j)) := by
  refine wl_inv (N := l.length) (I := fun t (a : Int32 × Sg) => a.1 = nI t ∧ FrJ σ a.2 ∧ ∀ i j, i < l.length → j < l.length → gJ a.2 (30 + i) j = Int64.ofInt (if i < t then gmd n w d l i j else gm n w l i j)) (fun t a ht hI => ?_) FU 0 ((0 : Int32), σ) ⟨rfl, Fr.rf, fun i j hi hj => by rw [if_neg (by omega)]; exact h i j hi hj⟩ (Nat.zero_le _) (FU_big (by omega))
  obtain ⟨x, σ1⟩ := a
  obtain ⟨hx, hF, hS⟩ := hI
  dsimp only at hx hF hS
  subst hx
  by_cases he : t = l.length
  · subst he
    exact ⟨_, hbody2 σ1 hF, Or.inr ⟨σ1, rfl, hF, fun i j hi hj => by rw [hS i j hi hj, if_pos hi]⟩⟩
  · refine ⟨_, hbody1 t σ1 (by omega) hF, Or.inl ⟨_, rfl, by omega, rfl, hF.tr (Fr.pJ (memJ (by omega))), fun i j hi hj => ?_⟩⟩
    dsimp only
    rw [gJ_pJ]
    by_cases c : i = t
    · subst c
      rw [if_pos rfl, updL_at, if_pos (show i < i + 1 by omega)]
      unfold gmd
      by_cases cj : j = l.length - 1
      · rw [if_pos cj, if_pos cj]
      · rw [if_neg cj, if_neg cj, hS i j hi hj, if_neg (by omega)]
    · rw [if_neg (by omega), hS i j hi hj]
      by_cases c2 : i < t
      · rw [if_pos c2, if_pos (by omega)]
      · rw [if_neg c2, if_neg (by omega)]
theorem f_stepSum_yes {σ : Sg} {kn n u v : Nat} {w : Nat → Nat → Nat} (hk : kn = 0 ∨ kn = 2) (hw : wok n w) (hN : NetAt σ kn n w) (hC : CC n (Ln n w)) (hu : u < n) (hv : v < n) : ∃ σ', f_X0_stepSum σ kn (nI u) (nI v) = some (lN (ss (sT n (dg n w) u v) (Ln n w)), σ') ∧ FrB σ σ' := by
  have hn := hw.2.1
  have h2 := hw.1
  unfold f_X0_stepSum
  by_cases huv : u = v
  · subst huv
    rw [if_pos rfl, sT_same]
    exact ⟨σ, rfl, Fr.rf⟩
  · have hlen := ord_len h2 hn hv hu huv
    obtain ⟨σ1, a1, a2, a3, a4⟩ := f_load_yes hk hw hN hu hv huv
    have hb := ord_b (v := v) hn hu
    have a4' := a4
    rw [← hlen] at a4'
    obtain ⟨σ2, c1, c2, c3⟩ := gmd_set (σ := σ1) (d := dg n w) (l := ord n v u) hk hw (netK hk a2 hN) a3 (by omega) (by omega) hb (body := fun a => f_X0_stepSum_B17 kn a.1 a.2) (fun t σ3 ht hF => by
      have h15 : gI σ3 15 = nI (ord n v u).length := (hF.1 15 (by simp)).trans a3.1
      have oi : gA σ3 35 t = nI (lat (ord n v u) t) := by rw [hF.2.1 35 (by simp)]; exact ord_at a3 ht
      have bi := lat_b hb ht
      have hd := dg_le hw bi
      dsimp only
      unfold f_X0_stepSum_B17
      rw [h15, if_neg (nI_ge ht (by omega)), gd_h (okI_nI (by omega) (by omega)), gd_h (okI_nI (by omega) (by omega)), nI_clamp (by omega), oi, f_degree_yes (netK hk hF.b (netK hk a2 hN)) hn bi, Option.bind_some, il_1, pk_sub (by omega), gd_h (okI_nI (by omega) (by omega)), nI_clamp (by omega), nI_64 (by omega), vl_e, nI_add, vl_e, lN_of]) (fun σ3 hF => by
      have h15 : gI σ3 15 = nI (ord n v u).length := (hF.1 15 (by simp)).trans a3.1
      dsimp only
      unfold f_X0_stepSum_B17
      rw [h15, if_pos (nI_le (Nat.le_refl _) (by omega))]) a4'
    rw [hlen] at c3
    obtain ⟨σ4, d1, d2⟩ := f_gdet_yes (σ := σ2) (d := dg n w) hw hC hv hu huv (fun x hx => dg_le hw hx) (by rw [c2.1 15 (by simp), a3.1, hlen]) c3
    rw [if_neg (by rw [nI_eq (by omega) (by omega)]; exact huv), a1, Option.bind_some, c1, Option.bind_some, d1]
    exact ⟨σ4, rfl, (a2.tr c2.b).tr d2.b⟩
def un (a x : Nat) : Nat := if x = a then 1 else 0
theorem f_pullSum_yes {σ : Sg} {kn n u v a : Nat} {w : Nat → Nat → Nat} (hk : kn = 0 ∨ kn = 2) (hw : wok n w) (hN : NetAt σ kn n w) (hC : CC n (Ln n w)) (hu : u < n) (hv : v < n) (ha : a < n) : ∃ σ', f_X0_pullSum σ kn (nI u) (nI a) (nI v) = some (lN (ss (sT n (un a) u v) (Ln n w)), σ') ∧ FrB σ σ' := by
  have hn := hw.2.1
  have h2 := hw.1
  unfold f_X0_pullSum
  by_cases huv : u = v
  · subst huv
    rw [if_pos rfl, sT_same]
    exact ⟨σ, rfl, Fr.rf⟩
  · have hlen := ord_len h2 hn hv hu huv
    obtain ⟨σ1, a1, a2, a3, a4⟩ := f_load_yes hk hw hN hu hv huv
    have hb := ord_b (v := v) hn hu
    have a4' := a4
    rw [← hlen] at a4'
    obtain ⟨σ2, c1, c2, c3⟩ := gmd_set (σ := σ1) (d := un a) (l := ord n v u) hk hw (netK hk a2 hN) a3 (by omega) (by omega) hb (body := fun q => f_X0_pullSum_B19 (nI a) q.1 q.2) (fun t σ3 ht hF => by
      have h15 : gI σ3 15 = nI (ord n v u).length := (hF.1 15 (by simp)).trans a3.1
      have oi : gA σ3 35 t = nI (lat (ord n v u) t) := by rw [hF.2.1 35 (by simp)]; exact ord_at a3 ht
      have bi := lat_b hb ht
      dsimp only
      unfold f_X0_pullSum_B19 un
      rw [h15, if_neg (nI_ge ht (by omega)), gd_h (okI_nI (by omega) (by omega)), gd_h (okI_nI (by omega) (by omega)), nI_clamp (by omega), oi, il_1, pk_sub (by omega), gd_h (okI_nI (by omega) (by omega)), nI_clamp (by omega)]
      by_cases c : lat (ord n v u) t = a
      · rw [if_pos (by rw [c]), if_pos c, vl_e, vl_e, nI_add]
        rfl
      · rw [if_neg (by rw [nI_eq (by omega) (by omega)]; exact c), if_neg c, gd_h (okI_nI (by omega) (by omega)), vl_e, vl_e, nI_add]
        rfl) (fun σ3 hF => by
      have h15 : gI σ3 15 = nI (ord n v u).length := (hF.1 15 (by simp)).trans a3.1
      dsimp only
      unfold f_X0_pullSum_B19
      rw [h15, if_pos (nI_le (Nat.le_refl _) (by omega))]) a4'
    rw [hlen] at c3
    obtain ⟨σ4, d1, d2⟩ := f_gdet_yes (σ := σ2) (d := un a) hw hC hv hu huv (fun x hx => by unfold un; split <;> omega) (by rw [c2.1 15 (by simp), a3.1, hlen]) c3
    rw [if_neg (by rw [nI_eq (by omega) (by omega)]; exact huv), a1, Option.bind_some, c1, Option.bind_some, d1]
    exact ⟨σ4, rfl, (a2.tr c2.b).tr d2.b⟩
