/-! the class's matrix -/
abbrev FrB (σ σ' : Sg) : Prop := Fr [15] [35] [30, 31, 32, 33, 34] σ σ'
theorem FrJ.b {σ σ' : Sg} (h : FrJ σ σ') : FrB σ σ' := Fr.mono h (fun _ q => absurd q List.not_mem_nil) (fun _ q => absurd q List.not_mem_nil) (fun _ q => q)
def OrdAt (σ : Sg) (l : List Nat) : Prop := gI σ 15 = nI l.length ∧ ∀ i x, l[i]? = some x → gA σ 35 i = nI x
theorem f_addRow_yes {σ : Sg} {l : List Nat} {x : Nat} (h : OrdAt σ l) (hl : l.length < 5) : ∃ σ', f_X0_addRow σ (nI x) = some σ' ∧ FrB σ σ' ∧ OrdAt σ' (l ++ [x]) := by
  unfold f_X0_addRow
  rw [h.1, il_5, if_neg (nI_ge hl (by omega)), gd_h (okI_nI (by omega) (by omega)), nI_clamp (by omega), vl_e, gI_pA, h.1, vl_e, nI_1, vl_e]
  refine ⟨_, rfl, (Fr.pA (by simp)).tr (Fr.pI (by simp)), ?_, fun i y hy => ?_⟩
  · rw [gI_pI, if_pos rfl]
    simp
  · rw [gA_pI, gA_pA, if_pos rfl, upd_at]
    by_cases c : i = l.length
    · subst c
      simp at hy
      rw [if_pos rfl, hy]
    · have hlt : i < l.length := by
        have := (List.getElem?_eq_some_iff.mp hy).1
        simp at this
        omega
      rw [if_neg c]
      rw [List.getElem?_append_left hlt] at hy
      exact h.2 i y hy
theorem f_load1 {σ : Sg} {kn n v u : Nat} (hkn : kn ≠ 5) (hN : gI σ (4 + 2 * kn) = nI n) (hk : 4 + 2 * kn ≠ 15) (hn : n ≤ 6) (hu : u < n) (hv : v < n) (huv : u ≠ v) (h2 : 2 ≤ n) (h15 : gI σ 15 = 0) : ∃ σ', wl (fun a : Int32 × Sg => f_X0_load_B8 kn (nI v) (nI u) a.1 a.2) FU ((0 : Int32), σ) = some σ' ∧ (FrB σ σ' ∧ OrdAt σ' (ord n v u).dropLast) := by
  have hd : (ord n v u).dropLast = (List.range n).filter (fun x => !(Nat.beq x v) && !(Nat.beq x u)) := by
    unfold ord
    rw [List.dropLast_concat]
  have hlen := ord_len h2 hn hv hu huv
  have hlen2 : ((List.range n).filter (fun x => !(Nat.beq x v) && !(Nat.beq x u))).length = n - 2 := by
    unfold ord at hlen
    rw [List.length_append] at hlen
    simp only [List.length_cons, List.length_nil] at hlen
    omega
  rw [hd]
  refine wl_inv (N := n) (I := fun i (a : Int32 × Sg) => a.1 = nI i ∧ FrB σ a.2 ∧ OrdAt a.2 ((List.range i).filter (fun x => !(Nat.beq x v) && !(Nat.beq x u)))) (fun i a hi hI => ?_) FU 0 ((0 : Int32), σ) ⟨rfl, Fr.rf, by rw [h15]; rfl, fun i x hx => by simp at hx⟩ (Nat.zero_le _) (FU_big (by omega))
  obtain ⟨x, σ1⟩ := a
  obtain ⟨hx, hF, hS⟩ := hI
  dsimp only at hx hF hS ⊢
  subst hx
  have hN' : gI σ1 (4 + 2 * kn) = nI n := (hF.1 _ (by simp; omega)).trans hN
  by_cases he : i = n
  · subst he
    refine ⟨.inr σ1, ?_, Or.inr ⟨σ1, rfl, hF, hS⟩⟩
    unfold f_X0_load_B8
    rw [hN', if_pos (nI_le (Nat.le_refl _) (by omega))]
  · have hlt : i < n := by omega
    have hsub : ((List.range (i + 1)).filter (fun x => !(Nat.beq x v) && !(Nat.beq x u))).length ≤ n - 2 := by
      rw [← hlen2]
      refine ((List.Sublist.filter _ ?_).length_le)
      exact List.range_sublist.mpr (by omega)
    have e1 : (List.range (i + 1)).filter (fun x => !(Nat.beq x v) && !(Nat.beq x u)) = (List.range i).filter (fun x => !(Nat.beq x v) && !(Nat.beq x u)) ++ (if (!(Nat.beq i v) && !(Nat.beq i u)) = true then [i] else []) := by
      rw [List.range_succ, List.filter_append]
      congr 1
      by_cases c : (!(Nat.beq i v) && !(Nat.beq i u)) = true
      · rw [if_pos c, List.filter_cons, if_pos c]
        rfl
      · rw [if_neg c, List.filter_cons, if_neg c]
        rfl
    by_cases c1 : i = v
    · refine ⟨.inl (nI (i + 1), σ1), ?_, Or.inl ⟨_, rfl, hlt, rfl, hF, ?_⟩⟩
      · unfold f_X0_load_B8
        rw [hN', if_neg (nI_ge hlt (by omega)), if_pos (by rw [c1]), vl_e, nI_1]
      · dsimp only
        rw [e1, if_neg (by rw [c1, Nat.beq_refl]; simp), List.append_nil]
        exact hS
    · by_cases c2 : i = u
      · refine ⟨.inl (nI (i + 1), σ1), ?_, Or.inl ⟨_, rfl, hlt, rfl, hF, ?_⟩⟩
        · unfold f_X0_load_B8
          rw [hN', if_neg (nI_ge hlt (by omega)), if_neg (by rw [nI_eq (by omega) (by omega)]; exact c1), if_pos (by rw [c2]), vl_e, nI_1]
        · dsimp only
          rw [e1, if_neg (by rw [c2, Nat.beq_refl]; simp), List.append_nil]
          exact hS
      · have cc : (!(Nat.beq i v) && !(Nat.beq i u)) = true := by
          have q1 : Nat.beq i v = false := by
            cases q : Nat.beq i v
            · rfl
            · exact absurd (Nat.eq_of_beq_eq_true q) c1
          have q2 : Nat.beq i u = false := by
            cases q : Nat.beq i u
            · rfl
            · exact absurd (Nat.eq_of_beq_eq_true q) c2
          rw [q1, q2]
          rfl
        rw [if_pos cc] at e1
        rw [e1, List.length_append] at hsub
        simp only [List.length_cons, List.length_nil] at hsub
        obtain ⟨σ2, g1, g2, g3⟩ := f_addRow_yes (x := i) hS (by omega)
        refine ⟨.inl (nI (i + 1), σ2), ?_, Or.inl ⟨_, rfl, hlt, rfl, hF.tr g2, ?_⟩⟩
        · unfold f_X0_load_B8
          rw [hN', if_neg (nI_ge hlt (by omega)), if_neg (by rw [nI_eq (by omega) (by omega)]; exact c1), if_neg (by rw [nI_eq (by omega) (by omega)]; exact c2), g1, Option.bind_some, vl_e, nI_1]
        · dsimp only
          rw [e1]
          exact g3
/-- the entries -/
def gm (n : Nat) (w : Nat → Nat → Nat) (l : List Nat) (i j : Nat) : Int := if i = j then (dg n w (lat l i) : Int) else -(w (lat l i) (lat l j) : Int)
theorem neg_w : ∀ a, a < 10 → (-(nI a)).toInt64 = Int64.ofInt (-(a : Int)) := by decide +kernel
theorem lN_of (a : Nat) : lN a = Int64.ofInt (a : Int) := by
  unfold lN
  rfl
theorem netK {σ σ' : Sg} {kn n : Nat} {w : Nat → Nat → Nat} (hk : kn = 0 ∨ kn = 2) (h : FrB σ σ') (hN : NetAt σ kn n w) : NetAt σ' kn n w := by
  rcases hk with rfl | rfl
  · exact hN.cg (h.1 _ (by simp)) (h.1 _ (by simp)) (h.2.1 _ (by simp)) (h.2.1 _ (by simp)) (h.2.1 _ (by simp))
  · exact hN.cg (h.1 _ (by simp)) (h.1 _ (by simp)) (h.2.1 _ (by simp)) (h.2.1 _ (by simp)) (h.2.1 _ (by simp))
theorem dg_le {n : Nat} {w : Nat → Nat → Nat} (hw : wok n w) {u : Nat} (hu : u < n) : dg n w u ≤ 45 := by
  have key : ∀ m, m ≤ u → ((List.range m).map (w u)).sum ≤ 9 * m := by
    intro m
    induction m with
    | zero => intro _; exact Nat.le_refl _
    | succ m ih =>
      intro h
      rw [sum_range_succ]
      have := ih (by omega)
      have := hw.2.2.2.2.1 u m
      omega
  have key2 : ∀ m, u < m → ((List.range m).map (w u)).sum ≤ 9 * (m - 1) := by
    intro m
    induction m with
    | zero => intro h; omega
    | succ m ih =>
      intro h
      rw [sum_range_succ]
      by_cases c : m = u
      · subst c
        have := key m (Nat.le_refl _)
        have := hw.2.2.2.1 m
        omega
      · have := ih (by omega)
        have := hw.2.2.2.2.1 u m
        omega
  have := key2 n hu
  have := hw.2.1
  unfold dg
  omega
theorem ord_at {σ : Sg} {l : List Nat} (h : OrdAt σ l) {i : Nat} (hi : i < l.length) : gA σ 35 i = nI (lat l i) := by
  refine h.2 i _ ?_
  unfold lat
  rw [List.getD_eq_getElem?_getD, List.getElem?_eq_getElem hi]
  rfl
theorem lat_b {l : List Nat} {n i : Nat} (h : ∀ a ∈ l, a < n) (hi : i < l.length) : lat l i < n := by
  unfold lat
  rw [List.getD_eq_getElem?_getD, List.getElem?_eq_getElem hi]
  exact h _ (List.getElem_mem hi)
theorem f_load_row {σ : Sg} {kn n i : Nat} {w : Nat → Nat → Nat} {l : List Nat} (hk : kn = 0 ∨ kn = 2) (hw : wok n w) (hN : NetAt σ kn n w) (hO : OrdAt σ l) (hl : l.length ≤ 5) (hb : ∀ a ∈ l, a < n) (hi : i < l.length) : ∃ σ', wl (fun a : Int32 × Sg => f_X0_load_B61 kn (nI i) a.1 a.2) FU ((0 : Int32), σ) = some σ' ∧ (FrJ σ σ' ∧ (∀ j, j < l.length → gJ σ' (30 + i) j = Int64.ofInt (gm n w l i j)) ∧ ∀ a, a ≠ i → gJ σ' (30 + a) = gJ σ (30 + a)) := by
  have hn := hw.2.1
  refine wl_inv (N := l.length) (I := fun t (a : Int32 × Sg) => a.1 = nI t ∧ FrJ σ a.2 ∧ (∀ j, j < t → gJ a.2 (30 + i) j = Int64.ofInt (gm n w l i j)) ∧ ∀ b, b ≠ i → gJ a.2 (30 + b) = gJ σ (30 + b)) (fun t a ht hI => ?_) FU 0 ((0 : Int32), σ) ⟨rfl, Fr.rf, fun j hj => by omega, fun _ _ => rfl⟩ (Nat.zero_le _) (FU_big (by omega))
  obtain ⟨x, σ1⟩ := a
  obtain ⟨hx, hF, hS, hE⟩ := hI
  dsimp only at hx hF hS hE ⊢
  subst hx
  have h15 : gI σ1 15 = nI l.length := (hF.1 15 (by simp)).trans hO.1
  have hN1 := netK hk hF.b hN
  have oi : gA σ1 35 i = nI (lat l i) := by rw [hF.2.1 35 (by simp)]; exact ord_at hO hi
  have bi := lat_b hb hi
  by_cases he : t = l.length
  · subst he
    refine ⟨.inr σ1, ?_, Or.inr ⟨σ1, rfl, hF, hS, hE⟩⟩
    unfold f_X0_load_B61
    rw [h15, if_pos (nI_le (Nat.le_refl _) (by omega))]
  · have hlt : t < l.length := by omega
    have ot : gA σ1 35 t = nI (lat l t) := by rw [hF.2.1 35 (by simp)]; exact ord_at hO hlt
    have bt := lat_b hb hlt
    refine ⟨.inl (nI (t + 1), pJ σ1 (30 + i) t (Int64.ofInt (gm n w l i t))), ?_, Or.inl ⟨_, rfl, hlt, rfl, hF.tr (Fr.pJ (memJ (by omega))), fun j hj => ?_, fun b hb' => ?_⟩⟩
    · unfold f_X0_load_B61 gm
      rw [h15, if_neg (nI_ge hlt (by omega)), gd_h (okI_nI (by omega) (by omega))]
      by_cases c : i = t
      · have hd := dg_le hw bi
        rw [if_pos (show nI i = nI t by rw [c]), gd_h (okI_nI (by omega) (by omega)), nI_clamp (by omega), oi, f_degree_yes hN1 hn bi, Option.bind_some, gd_h (okI_nI (by omega) (by omega)), nI_clamp (by omega), nI_64 (by omega), vl_e, vl_e, nI_1, lN_of, if_pos c]
      · have h9 := hw.2.2.2.2.1 (lat l i) (lat l t)
        rw [if_neg (show ¬ nI i = nI t by rw [nI_eq (by omega) (by omega)]; exact c), gd_h (okI_nI (by omega) (by omega)), gd_h (okI_nI (by omega) (by omega)), nI_clamp (by omega), nI_clamp (by omega), oi, ot, f_widthAt_yes hN1 hn bi bt, Option.bind_some, vl_e, gd_h (okI_nI (by omega) (by omega)), vl_e, vl_e, nI_1, neg_w _ (by omega), if_neg c]
    · dsimp only
      rw [gJ_pJ, if_pos rfl, updL_at]
      by_cases c : j = t
      · rw [if_pos c, c]
      · rw [if_neg c]
        exact hS j (by omega)
    · dsimp only
      rw [gJ_pJ, if_neg (by omega)]
      exact hE b hb'
theorem f_load_yes {σ : Sg} {kn n v u : Nat} {w : Nat → Nat → Nat} (hk : kn = 0 ∨ kn = 2) (hw : wok n w) (hN : NetAt σ kn n w) (hu : u < n) (hv : v < n) (huv : u ≠ v) : ∃ σ', f_X0_load σ kn (nI v) (nI u) = some σ' ∧ FrB σ σ' ∧ OrdAt σ' (ord n v u) ∧ ∀ i j, i < n - 1 → j < n - 1 → gJ σ' (30 + i) j = Int64.ofInt (gm n w (ord n v u) i j) := by
  have hn := hw.2.1
  have h2 := hw.1
  have hlen := ord_len h2 hn hv hu huv
  have hF0 : FrB σ (pI σ 15 0) := Fr.pI (by simp)
  obtain ⟨σ1, a1, a2, a3⟩ := f_load1 (σ := pI σ 15 0) (kn := kn) (n := n) (v := v) (u := u) (by omega) (by rw [gI_pI, if_neg (by omega)]; exact hN.1) (by omega) hn hu hv huv h2 rfl
  have hdl : (ord n v u).dropLast.length = n - 2 := by rw [List.length_dropLast, hlen]; omega
  obtain ⟨σ2, b1, b2, b3⟩ := f_addRow_yes (x := u) a3 (by omega)
  have he : (ord n v u).dropLast ++ [u] = ord n v u := by
    unfold ord
    rw [List.dropLast_concat]
  rw [he] at b3
  have F2 : FrB σ σ2 := (hF0.tr a2).tr b2
  have hb := ord_b (v := v) hn hu
  unfold f_X0_load
  rw [vl_e, a1, Option.bind_some, b1, Option.bind_some]
  have key := wl_inv (body := fun a : Int32 × Sg => f_X0_load_B49 kn a.1 a.2) (N := n - 1) (I := fun t (a : Int32 × Sg) => a.1 = nI t ∧ FrJ σ2 a.2 ∧ ∀ i j, i < t → j < n - 1 → gJ a.2 (30 + i) j = Int64.ofInt (gm n w (ord n v u) i j)) (Post := fun b : Sg => FrJ σ2 b ∧ ∀ i j, i < n - 1 → j < n - 1 → gJ b (30 + i) j = Int64.ofInt (gm n w (ord n v u) i j)) (fun t a ht hI => ?_) FU 0 ((0 : Int32), σ2) ⟨rfl, Fr.rf, fun i j hi => by omega⟩ (Nat.zero_le _) (FU_big (by omega))
  · obtain ⟨σ3, k1, k2, k3⟩ := key
    rw [k1]
    exact ⟨σ3, rfl, F2.tr k2.b, ⟨by rw [k2.1 15 (by simp)]; exact b3.1, fun i x hx => by rw [k2.2.1 35 (by simp)]; exact b3.2 i x hx⟩, k3⟩
  · obtain ⟨x, σ3⟩ := a
    obtain ⟨hx, hF, hS⟩ := hI
    dsimp only at hx hF hS ⊢
    subst hx
    have h15 : gI σ3 15 = nI (n - 1) := by rw [hF.1 15 (by simp), b3.1, hlen]
    by_cases he : t = n - 1
    · subst he
      refine ⟨.inr σ3, ?_, Or.inr ⟨σ3, rfl, hF, hS⟩⟩
      unfold f_X0_load_B49
      rw [h15, if_pos (nI_le (Nat.le_refl _) (by omega))]
    · obtain ⟨σ4, g1, g2, g3, g4⟩ := f_load_row (σ := σ3) (i := t) (l := ord n v u) hk hw (netK hk (F2.tr hF.b) hN) ⟨by rw [h15, hlen], fun i x hx => by rw [hF.2.1 35 (by simp)]; exact b3.2 i x hx⟩ (by omega) hb (by omega)
      refine ⟨.inl (nI (t + 1), σ4), ?_, Or.inl ⟨_, rfl, by omega, rfl, hF.tr g2, fun i j hi hj => ?_⟩⟩
      · unfold f_X0_load_B49
        rw [h15, if_neg (nI_ge (by omega) (by omega)), g1, Option.bind_some, vl_e, nI_1]
      · dsimp only
        by_cases c : i = t
        · rw [c]
          exact g3 j (by omega)
        · rw [g4 i c]
          exact hS i j (by omega) hj
