/-! the class tells a text -/
abbrev FrT (σ σ' : Sg) : Prop := Fr [2, 6, 7] [8, 9, 10] [] σ σ'
abbrev FrU (σ σ' : Sg) : Prop := Fr [2, 3, 6, 7] [8, 9, 10] [] σ σ'
theorem FrT.u {σ σ' : Sg} (h : FrT σ σ') : FrU σ σ' := Fr.mono h (by simp) (by simp) (by simp)
theorem Fr2.t {σ σ' : Sg} (h : Fr2 σ σ') : FrT σ σ' := Fr.mono h (by simp) (by simp) (by simp)
theorem FrC1.t {σ σ' : Sg} (h : FrC 1 σ σ') : FrT σ σ' := Fr.mono h (by simp) (by simp) (by simp)
theorem Tx.t {σ σ' : Sg} {tx : Nat → Int32} {len : Nat} (h : Tx σ tx len) (f : FrT σ σ') : Tx σ' tx len := h.fr f (by simp) (by simp)
theorem Net1 {I : List Nat} {σ σ' : Sg} {n : Nat} {w : Nat → Nat → Nat} (h : NetAt σ 1 n w) (f : Fr I [] [] σ σ') (h6 : 6 ∉ I) (h7 : 7 ∉ I) : NetAt σ' 1 n w := h.cg (f.1 _ h6) (f.1 _ h7) (f.2.1 _ List.not_mem_nil) (f.2.1 _ List.not_mem_nil) (f.2.1 _ List.not_mem_nil)
def Res (len p : Nat) (σ' : Sg) (b : Int32) : Nat ⊕ (Nat × (Nat → Nat → Nat) × Nat) → Prop
  | .inl q => b = 0 ∧ gI σ' 2 = nI q ∧ q ≤ len
  | .inr r => b = 1 ∧ gI σ' 2 = nI r.2.2 ∧ p < r.2.2 ∧ r.2.2 ≤ len ∧ NetAt σ' 1 r.1 r.2.1 ∧ wok r.1 r.2.1
theorem nI_m1' {i : Nat} (h : i < 2 ^ 31) : ¬ nI i = -1 := fun q => by
  have h1 := congrArg Int32.toInt q
  rw [nI_toInt h] at h1
  have : ((-1 : Int32)).toInt = -1 := rfl
  omega
theorem lt1_lt {tx : Nat → Int32} {len i : Nat} {x : Int32} (h : lt1 tx len i = x) (hx : x ≠ -1) : i < len := Classical.byContradiction fun q => hx (by rw [← h]; unfold lt1; rw [if_neg q])
theorem f_end_yes {σ : Sg} {tx : Nat → Int32} {len p0 p n : Nat} {w : Nat → Nat → Nat} (h : Tx σ tx len) (hp : gI σ 2 = nI p) (hpl : p ≤ len) (h0 : p0 ≤ p) (hN : NetAt σ 1 n w) (hw : wok n w) : ∃ b σ', f_X4_passesEnd σ = some (b, σ') ∧ FrT σ σ' ∧ Res len p0 σ' b (itE tx len p n w) ∧ okZ b = true := by
  have hl := h.2.1
  obtain ⟨σ1, a1, a2, a3⟩ := f_skip_yes h hp (by omega)
  have hq := sk_le (tx := tx) hpl
  have hge := sk_ge tx len p
  have hT := h.t a2.t
  unfold f_X4_passesEnd itE
  rw [a1, Option.bind_some, a3, f_letter_yes hT (by omega), Option.bind_some]
  by_cases c : lt1 tx len (sk tx len p) = 59
  · have hlt := lt1_lt c (by decide)
    rw [if_pos c, if_pos c, nI_1, vl_e, vl_e]
    exact ⟨1, _, rfl, a2.t.tr (Fr.pI (by simp)), ⟨rfl, by rw [gI_pI, if_pos rfl], by dsimp only; omega, by dsimp only; omega, Net1 (Net1 hN a2 (by simp) (by simp)) (Fr.pI (I := [2]) (by simp)) (by simp) (by simp), hw⟩, rfl⟩
  · rw [if_neg c, if_neg c]
    exact ⟨0, σ1, rfl, a2.t, ⟨rfl, a3, hq⟩, rfl⟩
theorem nmI_n : nmI none = -1 := rfl
theorem nmI_s (a : Nat) : nmI (some a) = nI a := rfl
theorem sub1 {n : Nat} (h : 1 ≤ n) : nI n - (1 : Int32) = nI (n - 1) := by rw [il_1, pk_sub h]
theorem wok0 {n : Nat} (h2 : 2 ≤ n) (h6 : n ≤ 6) : wok n (fun _ _ => 0) := ⟨h2, h6, fun _ _ => rfl, fun _ => rfl, fun _ _ => Nat.zero_le _, by rw [Ln_zero (fun _ _ _ _ => rfl)]; exact Nat.zero_le _⟩
theorem f_nodes_yes {σ : Sg} {tx : Nat → Int32} {len p : Nat} (h : Tx σ tx len) (hp : gI σ 2 = nI (p + 1)) (hpl : p < len) : ∃ b σ', f_X4_tellsNodes σ 1 = some (b, σ') ∧ FrT σ σ' ∧ Res len p σ' b (itN tx len p) ∧ okZ b = true := by
  obtain ⟨σ1, a1, a2, a3⟩ := f_num_yes (lo := 2) (hi := 6) h hp (by omega) (by omega) (by omega)
  have hl := h.2.1
  have hq := sk_le (tx := tx) (show p + 1 ≤ len by omega)
  have hge := sk_ge tx len (p + 1)
  unfold f_X4_tellsNodes itN
  have a1' : f_X4_numberAhead σ (2 : Int32) (6 : Int32) = _ := a1
  cases hnm : nm tx len (sk tx len (p + 1)) 2 6 with
  | none =>
    rw [hnm, nmI_n] at a1'
    rw [a1', Option.bind_some, if_pos rfl]
    exact ⟨0, σ1, rfl, a2.t, ⟨rfl, a3, hq⟩, rfl⟩
  | some a =>
    obtain ⟨b1, b2, b3, b4⟩ := nm_b hnm
    rw [hnm, nmI_s] at a1'
    rw [a1', Option.bind_some, if_neg (nI_m1' (by omega))]
    dsimp only
    rw [a3, nI_1, vl_e, vl_e]
    have F0 : FrT σ1 (pI σ1 2 (nI (sk tx len (p + 1) + 1))) := Fr.pI (by simp)
    obtain ⟨σ2, e1, e2, e3⟩ := f_empty_yes (σ := pI σ1 2 (nI (sk tx len (p + 1) + 1))) (k := 1) (n := a) (by omega) b1 b2
    have F2 : FrT σ σ2 := (a2.t.tr F0).tr (FrC1.t e2)
    obtain ⟨b, σ3, g1, g2, g3, g4⟩ := f_end_yes (σ := σ2) (p0 := p) (p := sk tx len (p + 1) + 1) (n := a) (w := fun _ _ => 0) (h.t F2) (by rw [e2.1 2 (by simp), gI_pI, if_pos rfl]) (by omega) (by omega) e3 (wok0 b1 b2)
    rw [e1, Option.bind_some, g1, Option.bind_some, gd_h g4]
    exact ⟨b, σ3, rfl, F2.tr g2, g3, g4⟩
theorem f_tline_yes {σ : Sg} {tx : Nat → Int32} {len p n : Nat} {w : Nat → Nat → Nat} (h : Tx σ tx len) (hp : gI σ 2 = nI (p + 1)) (hpl : p < len) (hN : NetAt σ 1 n w) (hw : wok n w) (h10 : (Ln n w).length < 10) : ∃ b σ', f_X4_tellsLine σ 1 = some (b, σ') ∧ FrT σ σ' ∧ Res len p σ' b (itL tx len p n w) ∧ okZ b = true := by
  have hl := h.2.1
  have hn := hw.2.1
  have h2 := hw.1
  obtain ⟨σ1, a1, a2, a3⟩ := f_num_yes (lo := 0) (hi := n - 1) h hp (by omega) (by omega) (by omega)
  have hq := sk_le (tx := tx) (show p + 1 ≤ len by omega)
  have hge := sk_ge tx len (p + 1)
  unfold f_X4_tellsLine itL
  have a1' : f_X4_numberAhead σ (0 : Int32) ((gI σ (4 + 2 * 1)) - (1 : Int32)) = some (nmI (nm tx len (sk tx len (p + 1)) 0 (n - 1)), σ1) := by
    rw [show gI σ (4 + 2 * 1) = nI n from hN.1, sub1 (by omega)]
    exact a1
  cases hnm : nm tx len (sk tx len (p + 1)) 0 (n - 1) with
  | none =>
    rw [hnm, nmI_n] at a1'
    rw [a1', Option.bind_some, if_pos rfl]
    exact ⟨0, σ1, rfl, a2.t, ⟨rfl, a3, hq⟩, rfl⟩
  | some u =>
    obtain ⟨b1, b2, b3, b4⟩ := nm_b hnm
    rw [hnm, nmI_s] at a1'
    rw [a1', Option.bind_some, if_neg (nI_m1' (by omega))]
    dsimp only
    rw [a3, nI_1, vl_e, vl_e]
    unfold itV
    generalize hq1 : sk tx len (p + 1) = q1 at *
    have F0 : Fr2 σ1 (pI σ1 2 (nI (q1 + 1))) := Fr.pI (by simp)
    have N1 : NetAt (pI σ1 2 (nI (q1 + 1))) 1 n w := Net1 (Net1 hN a2 (by simp) (by simp)) F0 (by simp) (by simp)
    obtain ⟨σ2, c1, c2, c3⟩ := f_num_yes (σ := pI σ1 2 (nI (q1 + 1))) (p := q1 + 1) (lo := 0) (hi := n - 1) (h.t (a2.t.tr F0.t)) (by rw [gI_pI, if_pos rfl]) (by omega) (by omega) (by omega)
    have hq' := sk_le (tx := tx) (show q1 + 1 ≤ len by omega)
    have hge' := sk_ge tx len (q1 + 1)
    have c1' : f_X4_numberAhead (pI σ1 2 (nI (q1 + 1))) (0 : Int32) ((gI (pI σ1 2 (nI (q1 + 1))) (4 + 2 * 1)) - (1 : Int32)) = some (nmI (nm tx len (sk tx len (q1 + 1)) 0 (n - 1)), σ2) := by
      rw [show gI (pI σ1 2 (nI (q1 + 1))) (4 + 2 * 1) = nI n from N1.1, sub1 (by omega)]
      exact c1
    have F2 : FrT σ σ2 := (a2.t.tr F0.t).tr c2.t
    cases hnm2 : nm tx len (sk tx len (q1 + 1)) 0 (n - 1) with
    | none =>
      rw [hnm2, nmI_n] at c1'
      rw [c1', Option.bind_some, if_pos rfl]
      exact ⟨0, σ2, rfl, F2, ⟨rfl, c3, hq'⟩, rfl⟩
    | some v =>
      obtain ⟨d1, d2, d3, d4⟩ := nm_b hnm2
      have N2 : NetAt σ2 1 n w := Net1 N1 c2 (by simp) (by simp)
      rw [hnm2, nmI_s] at c1'
      rw [c1', Option.bind_some, if_neg (nI_m1' (by omega))]
      dsimp only
      by_cases huv : u = v
      · subst huv
        rw [if_pos rfl, if_pos (Or.inl rfl)]
        exact ⟨0, σ2, rfl, F2, ⟨rfl, c3, hq'⟩, rfl⟩
      · rw [if_neg (show ¬ nI v = nI u by rw [nI_eq (by omega) (by omega)]; exact fun q => huv q.symm), f_widthAt_yes N2 hn (by omega) (by omega), Option.bind_some]
        by_cases hw0 : w u v = 0
        · rw [hw0, if_pos (show nI 0 = 0 from rfl), if_neg (by rintro (q | q); exact huv q; exact q rfl), c3, nI_1, vl_e, vl_e]
          unfold itW
          generalize hq2 : sk tx len (q1 + 1) = q2 at *
          have F3 : Fr2 σ2 (pI σ2 2 (nI (q2 + 1))) := Fr.pI (by simp)
          obtain ⟨σ3, e1, e2, e3⟩ := f_num_yes (σ := pI σ2 2 (nI (q2 + 1))) (p := q2 + 1) (lo := 1) (hi := 9) (h.t (F2.tr F3.t)) (by rw [gI_pI, if_pos rfl]) (by omega) (by omega) (by omega)
          have N3 : NetAt σ3 1 n w := Net1 (Net1 N2 F3 (by simp) (by simp)) e2 (by simp) (by simp)
          have F4 : FrT σ σ3 := (F2.tr F3.t).tr e2.t
          have hq'' := sk_le (tx := tx) (show q2 + 1 ≤ len by omega)
          have hge'' := sk_ge tx len (q2 + 1)
          have e1' : f_X4_numberAhead (pI σ2 2 (nI (q2 + 1))) (1 : Int32) (9 : Int32) = _ := e1
          cases hnm3 : nm tx len (sk tx len (q2 + 1)) 1 9 with
          | none =>
            rw [hnm3, nmI_n] at e1'
            rw [e1', Option.bind_some, if_pos rfl]
            exact ⟨0, σ3, rfl, F4, ⟨rfl, e3, hq''⟩, rfl⟩
          | some a =>
            obtain ⟨g1, g2, g3, g4⟩ := nm_b hnm3
            rw [hnm3, nmI_s] at e1'
            rw [e1', Option.bind_some, if_neg (nI_m1' (by omega))]
            dsimp only
            rw [e3, nI_1, vl_e, vl_e]
            generalize hq3 : sk tx len (q2 + 1) = q3 at *
            have F5 : Fr2 σ3 (pI σ3 2 (nI (q3 + 1))) := Fr.pI (by simp)
            have N5 : NetAt (pI σ3 2 (nI (q3 + 1))) 1 n w := Net1 N3 F5 (by simp) (by simp)
            obtain ⟨A, B, r1, r2, r3, r4⟩ := Ln_add (a := a) hw (show u < n by omega) (show v < n by omega) huv hw0 (by omega)
            have hw' : wok n (w2 w u v a) := w2_wok hw huv (by omega) (by rw [r4]; rw [r1] at h10; simp at h10 ⊢; omega)
            obtain ⟨σ4, i1, i2, i3⟩ := f_put_yes (σ := pI σ3 2 (nI (q3 + 1))) (k := 1) (n := n) (u := u) (v := v) (a := a) (w := w) hn ⟨N5.1, N5.2.2.1⟩ (by omega) (by omega) huv hw'
            have F6 : FrT σ σ4 := (F4.tr F5.t).tr (Fr.mono i2 (by simp) (by simp) (by simp))
            obtain ⟨b, σ5, j1, j2, j3, j4⟩ := f_end_yes (σ := σ4) (p0 := p) (p := q3 + 1) (n := n) (w := w2 w u v a) (h.t F6) (by rw [i2.1 2 (by simp), gI_pI, if_pos rfl]) (by omega) (by omega) i3 hw'
            rw [i1, Option.bind_some, j1, Option.bind_some, gd_h j4]
            exact ⟨b, σ5, rfl, F6.tr j2, j3, j4⟩
        · rw [if_neg (nI_ne0 (Nat.pos_of_ne_zero hw0) (by have := hw.2.2.2.2.1 u v; omega)), if_pos (Or.inr hw0)]
          exact ⟨0, σ2, rfl, F2, ⟨rfl, c3, hq'⟩, rfl⟩
theorem f_item_yes {σ : Sg} {tx : Nat → Int32} {len p items n : Nat} {w : Nat → Nat → Nat} (h : Tx σ tx len) (hp : gI σ 2 = nI p) (hpl : p < len) (h3 : gI σ 3 = nI items) (hi : items ≤ 80) (hN : NetAt σ 1 n w) (hw : wok n w) : ∃ b σ', f_X4_tellsItem σ 1 = some (b, σ') ∧ FrT σ σ' ∧ gI σ' 3 = nI items ∧ Res len p σ' b (itm tx len p items n w) := by
  have hl := h.2.1
  have hlen := hw.2.2.2.2.2
  have F0 : Fr2 σ (pI σ 2 (nI (p + 1))) := Fr.pI (by simp)
  have fault : Res len p σ 0 (.inl p) := ⟨rfl, hp, by omega⟩
  have hlt : lt1 tx len p = tx p := by unfold lt1; rw [if_pos hpl]
  have N0 : NetAt (pI σ 2 (nI (p + 1))) 1 n w := Net1 hN F0 (by simp) (by simp)
  have T0 : Tx (pI σ 2 (nI (p + 1))) tx len := h.t F0.t
  have h30 : gI (pI σ 2 (nI (p + 1))) 3 = nI items := h3
  have hJ : tx p ≠ 110 ∨ items ≠ 0 → ∃ b σ', f_X4_tellsItem_J38 σ 1 (tx p) = some (b, σ') ∧ FrT σ σ' ∧ gI σ' 3 = nI items ∧ Res len p σ' b (if tx p = 101 then (if (Ln n w).length = 10 then .inl p else itL tx len p n w) else .inl p) := fun _ => by
    unfold f_X4_tellsItem_J38
    by_cases c : tx p = 101
    · rw [if_pos c, if_pos c, show gI σ (5 + 2 * 1) = nI (Ln n w).length from hN.2.1]
      by_cases c10 : (Ln n w).length = 10
      · rw [if_pos c10, c10, if_pos (by decide)]
        exact ⟨0, σ, rfl, Fr.rf, h3, fault⟩
      · rw [if_neg c10, il_10, if_neg (nI_ge (by omega) (by omega)), hp, nI_1, vl_e, vl_e]
        obtain ⟨b, σ1, a1, a2, a3, a4⟩ := f_tline_yes T0 (by rw [gI_pI, if_pos rfl]) hpl N0 hw (by omega)
        rw [a1, Option.bind_some, gd_h a4]
        exact ⟨b, σ1, rfl, F0.t.tr a2, (a2.1 3 (by simp)).trans h3, a3⟩
    · rw [if_neg c, if_neg c]
      exact ⟨0, σ, rfl, Fr.rf, h3, fault⟩
  unfold f_X4_tellsItem itm
  rw [hp, f_letter_yes h (by omega), Option.bind_some, hlt]
  by_cases c : tx p = 110
  · rw [if_pos c, if_pos c, h3]
    by_cases c0 : items = 0
    · rw [if_pos (show nI items = 0 by rw [c0]; rfl), if_pos c0, nI_1, vl_e, vl_e]
      obtain ⟨b, σ1, a1, a2, a3, a4⟩ := f_nodes_yes T0 (by rw [gI_pI, if_pos rfl]) hpl
      rw [a1, Option.bind_some, gd_h a4]
      exact ⟨b, σ1, rfl, F0.t.tr a2, (a2.1 3 (by simp)).trans h3, a3⟩
    · rw [if_neg (nI_ne0 (Nat.pos_of_ne_zero c0) (by omega)), if_neg c0]
      have := hJ (Or.inr c0)
      rw [c, if_neg (by decide)] at this
      rw [c]
      exact this
  · rw [if_neg c, if_neg c]
    exact hJ (Or.inl c)
/-- all items -/
def pl (tx : Nat → Int32) (len : Nat) : Nat → Nat → Nat → (Nat → Nat → Nat) → Nat → Nat ⊕ (Nat × Nat × (Nat → Nat → Nat))
  | 0, items, n, w, _ => .inr (items, n, w)
  | k + 1, items, n, w, p => if p < len then (match itm tx len p items n w with
      | .inl q => .inl q
      | .inr r => pl tx len k (items + 1) r.1 r.2.1 (sk tx len r.2.2)) else .inr (items, n, w)
def plA (tx : Nat → Int32) (len : Nat) : Nat ⊕ (Nat × Nat × (Nat → Nat → Nat)) := pl tx len 81 0 2 (fun _ _ => 0) (sk tx len 0)
def ResT (len : Nat) (σ' : Sg) (b : Int32) : Nat ⊕ (Nat × Nat × (Nat → Nat → Nat)) → Prop
  | .inl q => b = 0 ∧ gI σ' 2 = nI q ∧ q ≤ len
  | .inr r => b = 1 ∧ gI σ' 3 = nI r.1 ∧ NetAt σ' 1 r.2.1 r.2.2 ∧ wok r.2.1 r.2.2
theorem Tx.u {σ σ' : Sg} {tx : Nat → Int32} {len : Nat} (h : Tx σ tx len) (f : FrU σ σ') : Tx σ' tx len := h.fr f (by simp) (by simp)
theorem f_tells_yes {σ : Sg} {tx : Nat → Int32} {len : Nat} (h : Tx σ tx len) : ∃ b σ', f_X4_tells σ 1 = some (b, σ') ∧ FrU σ σ' ∧ ResT len σ' b (plA tx len) := by
  have hl := h.2.1
  have F0 : FrU σ (pI (pI σ 2 0) 3 0) := (Fr.pI (by simp)).tr (Fr.pI (by simp))
  obtain ⟨σ1, e1, e2, e3⟩ := f_empty_yes (σ := pI (pI σ 2 0) 3 0) (k := 1) (n := 2) (by omega) (by omega) (by omega)
  have F1 : FrU σ σ1 := F0.tr (FrT.u (FrC1.t e2))
  obtain ⟨σ2, a1, a2, a3⟩ := f_skip_yes (p := 0) (h.u F1) (by rw [e2.1 2 (by simp)]; rfl) (by omega)
  have F2 : FrU σ σ2 := F1.tr (FrT.u a2.t)
  have h32 : gI σ2 3 = nI 0 := by rw [a2.1 3 (by simp), e2.1 3 (by simp)]; rfl
  have key := wl_inv (body := fun a : Int32 × Sg => f_X4_tells_B21 1 a.1 a.2) (N := 80) (I := fun i (a : Int32 × Sg) => ∃ n w p, a.1 = nI i ∧ FrU σ a.2 ∧ gI a.2 2 = nI p ∧ i ≤ p ∧ p ≤ len ∧ gI a.2 3 = nI i ∧ NetAt a.2 1 n w ∧ wok n w ∧ pl tx len (81 - i) i n w p = plA tx len) (Post := fun b : Sg ⊕ (Int32 × Sg) => (∃ σ', b = .inl σ' ∧ FrU σ σ' ∧ ResT len σ' 1 (plA tx len)) ∨ (∃ σ', b = .inr (0, σ') ∧ FrU σ σ' ∧ ResT len σ' 0 (plA tx len))) (fun i a hi hI => ?_) FU 0 ((0 : Int32), σ2) ⟨2, fun _ _ => 0, sk tx len 0, rfl, F2, a3, Nat.zero_le _, sk_le (Nat.zero_le _), h32, Net1 e3 a2 (by simp) (by simp), wok0 (by omega) (by omega), rfl⟩ (Nat.zero_le _) (FU_big (by omega))
  · obtain ⟨q, k1, k2⟩ := key
    have e1' : f_X1_empty (pI (pI σ 2 0) 3 0) 1 (2 : Int32) = some σ1 := e1
    unfold f_X4_tells
    rw [vl_e, vl_e, e1', Option.bind_some, a1, Option.bind_some, k1, Option.bind_some]
    rcases k2 with ⟨σ', rfl, k3, k4⟩ | ⟨σ', rfl, k3, k4⟩
    · exact ⟨1, σ', rfl, k3, k4⟩
    · exact ⟨0, σ', rfl, k3, k4⟩
  · obtain ⟨x, σ3⟩ := a
    obtain ⟨n, w, p, hx, hF, h2, hip, hpl, h3, hN, hw, hR⟩ := hI
    dsimp only at hx hF h2 h3 hN ⊢
    subst hx
    have T3 := h.u hF
    have stop : ¬ p < len → ResT len σ3 1 (plA tx len) := fun q => by
      rw [← hR]
      have e0 : pl tx len (81 - i) i n w p = .inr (i, n, w) := by
        rw [show 81 - i = (80 - i) + 1 by omega]
        show (if p < len then _ else _) = _
        rw [if_neg q]
      rw [e0]
      exact ⟨rfl, h3, hN, hw⟩
    by_cases c80 : i = 80
    · refine ⟨.inr (.inl σ3), ?_, Or.inr ⟨_, rfl, Or.inl ⟨σ3, rfl, hF, stop (by omega)⟩⟩⟩
      unfold f_X4_tells_B21
      rw [il_80, c80, if_pos (nI_le (Nat.le_refl _) (by omega))]
    · by_cases cp : p < len
      · obtain ⟨b, σ4, f1, f2, f3, f4⟩ := f_item_yes T3 h2 cp h3 (by omega) hN hw
        have hR2 : (match itm tx len p i n w with
            | .inl q => .inl q
            | .inr r => pl tx len (80 - i) (i + 1) r.1 r.2.1 (sk tx len r.2.2)) = plA tx len := by
          rw [← hR, show 81 - i = (80 - i) + 1 by omega]
          show _ = (if p < len then _ else _)
          rw [if_pos cp]
        have hb0 : f_X4_tells_B21 1 (nI i) σ3 = (if b = 0 then some (.inr (.inr ((0 : Int32), σ4))) else vl ((gI σ4 3) + (1 : Int32)) (fun x11 => vl (pI σ4 3 x11) (fun σ12 => (f_X4_skipBlanks σ12).bind (fun t13 => vl (nI i + (1 : Int32)) (fun x14 => some (.inl (x14, t13))))))) := by
          unfold f_X4_tells_B21
          rw [il_80, if_neg (nI_ge (by omega) (by omega)), T3.1, h2, if_neg (nI_ge cp (by omega)), f1, Option.bind_some]
        cases hit : itm tx len p i n w with
        | inl q =>
          rw [hit] at f4 hR2
          dsimp only at hR2
          obtain ⟨rfl, g2, g3⟩ := f4
          rw [if_pos rfl] at hb0
          refine ⟨_, hb0, Or.inr ⟨_, rfl, Or.inr ⟨σ4, rfl, hF.tr f2.u, ?_⟩⟩⟩
          rw [← hR2]
          exact ⟨rfl, g2, g3⟩
        | inr r =>
          rw [hit] at f4 hR2
          dsimp only at hR2
          obtain ⟨rfl, g2, g3, g4, g5, g6⟩ := f4
          rw [if_neg ne10, f3, nI_1, vl_e, vl_e] at hb0
          have F4 : FrU σ (pI σ4 3 (nI (i + 1))) := (hF.tr f2.u).tr (Fr.pI (by simp))
          obtain ⟨σ5, s1, s2, s3⟩ := f_skip_yes (σ := pI σ4 3 (nI (i + 1))) (p := r.2.2) (h.u F4) g2 (by omega)
          rw [s1, Option.bind_some, vl_e] at hb0
          have hge := sk_ge tx len r.2.2
          refine ⟨_, hb0, Or.inl ⟨_, rfl, by omega, r.1, r.2.1, sk tx len r.2.2, rfl, F4.tr (FrT.u s2.t), s3, by omega, sk_le g4, ?_, Net1 (Net1 g5 (Fr.pI (I := [3]) (by simp)) (by simp) (by simp)) s2 (by simp) (by simp), g6, ?_⟩⟩
          · dsimp only
            rw [s2.1 3 (by simp), gI_pI, if_pos rfl]
          · rw [show 81 - (i + 1) = 80 - i by omega]
            exact hR2
      · refine ⟨.inr (.inl σ3), ?_, Or.inr ⟨_, rfl, Or.inl ⟨σ3, rfl, hF, stop cp⟩⟩⟩
        unfold f_X4_tells_B21
        rw [il_80, if_neg (nI_ge (by omega) (by omega)), T3.1, h2, if_pos (nI_le (by omega) (by omega))]
