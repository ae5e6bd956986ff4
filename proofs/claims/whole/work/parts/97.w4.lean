/-! the reference's items -/
def Fm (σ σ' : Sg) : Prop := Fr [21, 22, 23, 24, 25] [46, 50] [] σ σ' ∧ ∀ q, q < 465 → gA σ' 46 q = gA σ 46 q
theorem Fm.rf {σ : Sg} : Fm σ σ := ⟨Fr.rf, fun _ _ => rfl⟩
theorem Fm.tr {σ σ1 σ2 : Sg} (h : Fm σ σ1) (g : Fm σ1 σ2) : Fm σ σ2 := ⟨h.1.tr g.1, fun q hq => (g.2 q hq).trans (h.2 q hq)⟩
theorem FrR.m {σ σ' : Sg} (h : FrR σ σ') : Fm σ σ' := ⟨Fr.mono h (by simp) (by simp) (by simp), fun q _ => by rw [h.2.1 46 (by simp)]⟩
theorem FrK.m {σ σ' : Sg} (h : FrK σ σ') : Fm σ σ' := ⟨Fr.mono h (by simp) (by simp) (by simp), fun q _ => by rw [h.2.1 46 (by simp)]⟩
theorem Ty.m {σ σ' : Sg} {tx : Nat → Int32} {len : Nat} (h : Ty σ tx len) (f : Fm σ σ') : Ty σ' tx len := h.fr f.1 (by simp) (by simp)
def Res7 (len p : Nat) (σ' : Sg) (b : Int32) : Nat ⊕ (Nat × (Nat → Nat → Nat) × Nat) → Prop
  | .inl q => b = 0 ∧ gI σ' 21 = nI q
  | .inr r => b = 1 ∧ gI σ' 22 = nI r.2.2 ∧ p < r.2.2 ∧ r.2.2 ≤ len ∧ gI σ' 25 = nI r.1 ∧ RowAt σ' 465 (Ln r.1 r.2.1) ∧ wok r.1 r.2.1
theorem tok_letter {σ : Sg} {tx : Nat → Int32} {len p : Nat} {c : Int32} (h : Tok σ tx len p) (hp : p < len) (hc : fg c = false) (h48 : c ≠ 48) : (gI σ 23 = c ↔ tx p = c) ∧ (tx p = c → gI σ 22 = nI (p + 1)) := by
  cases f : fg (tx p)
  · obtain ⟨u1, u2⟩ := h.2.2.1 hp f
    exact ⟨by rw [u1], fun _ => u2⟩
  · have u1 := (h.2.2.2 hp f).1
    have n1 : tx p ≠ c := fun q => by rw [q, hc] at f; cases f
    exact ⟨⟨fun q => absurd (q.symm.trans u1) h48, fun q => absurd q n1⟩, fun q => absurd q n1⟩
theorem f_mend_yes {σ : Sg} {tx : Nat → Int32} {len p0 b n : Nat} {w : Nat → Nat → Nat} (h : Ty σ tx len) (hb : gI σ 22 = nI b) (hbl : b ≤ len) (h0 : p0 ≤ b) (h25 : gI σ 25 = nI n) (hr : RowAt σ 465 (Ln n w)) (hw : wok n w) : ∃ z σ', f_X7_isItem_J170 σ = some (z, σ') ∧ Fm σ σ' ∧ Res7 len p0 σ' z (itE tx len b n w) := by
  have hl := h.2.1
  obtain ⟨σ1, a1, a2, a3⟩ := f_next_yes h hb hbl
  have hge := sk_ge tx len b
  have h19 : gI σ1 19 = nI len := (a2.1 19 (by simp)).trans h.1
  unfold f_X7_isItem_J170 f_X7_isEnd itE
  generalize sk tx len b = q at *
  rw [a1, Option.bind_some, a3.1, h19]
  have hq := a3.2.1
  by_cases c : q = len
  · rw [if_pos (show nI q = nI len by rw [c]), Option.bind_some, if_neg ne10, if_neg (show ¬ lt1 tx len q = 59 by unfold lt1; rw [if_neg (by omega)]; decide)]
    exact ⟨0, σ1, rfl, a2.m, rfl, a3.1⟩
  · have hlt : lt1 tx len q = tx q := by unfold lt1; rw [if_pos (by omega)]
    obtain ⟨l1, l2⟩ := tok_letter (c := 59) a3 (by omega) (by decide) (by decide)
    rw [if_neg (show ¬ nI q = nI len by rw [nI_eq (by omega) (by omega)]; exact c), Option.bind_some, if_pos rfl, hlt]
    by_cases c2 : tx q = 59
    · rw [if_pos (l1.mpr c2), if_pos c2]
      exact ⟨1, σ1, rfl, a2.m, rfl, l2 c2, by dsimp only; omega, by dsimp only; omega, (a2.1 25 (by simp)).trans h25, hr.cg (a2.2.1 46 (by simp)), hw⟩
    · rw [if_neg (fun r => c2 (l1.mp r)), if_neg c2]
      exact ⟨0, σ1, rfl, a2.m, rfl, a3.1⟩
theorem c1' : (1 : Int32).toNatClampNeg = 1 := rfl
theorem c2' : (2 : Int32).toNatClampNeg = 2 := rfl
theorem c465 : (465 : Int32).toNatClampNeg = 465 := rfl
theorem f_mitem_yes {σ : Sg} {tx : Nat → Int32} {len p items n : Nat} {w : Nat → Nat → Nat} (h : Ty σ tx len) (ht : Tok σ tx len p) (hpl : p < len) (hi : items ≤ 80) (h25 : gI σ 25 = nI n) (hr : RowAt σ 465 (Ln n w)) (hw : wok n w) (hz : items = 0 → w = fun _ _ => 0) : ∃ z σ', f_X7_isItem σ (nI items) = some (z, σ') ∧ Fm σ σ' ∧ Res7 len p σ' z (itm tx len p items n w) := by
  have hl := h.2.1
  have hn := hw.2.1
  have h2 := hw.1
  have hlen := hw.2.2.2.2.2
  obtain ⟨l1, l2⟩ := tok_letter (c := 110) ht hpl (by decide) (by decide)
  obtain ⟨k1, k2⟩ := tok_letter (c := 101) ht hpl (by decide) (by decide)
  have fault : Res7 len p σ 0 (.inl p) := ⟨rfl, ht.1⟩
  unfold f_X7_isItem itm
  by_cases c : tx p = 110
  · rw [if_pos (l1.mpr c), if_pos c]
    by_cases ci : items = 0
    · subst ci
      have hw0 := hz rfl
      subst hw0
      rw [if_neg (by decide), if_pos rfl]
      obtain ⟨σ1, a1, a2, a3, a4, a5⟩ := f_reads_yes (j := 0) (lo := 2) (hi := 6) h (l2 c) (by omega) (by omega) (by omega) (by omega)
      have a1' : f_X7_reads σ (0 : Int32) (2 : Int32) (6 : Int32) = some (bI (nm tx len (sk tx len (p + 1)) 2 6).isSome, σ1) := a1
      have hge := sk_ge tx len (p + 1)
      unfold itN
      cases hnm : nm tx len (sk tx len (p + 1)) 2 6 with
      | none =>
        rw [hnm] at a1'
        rw [a1', Option.bind_some, if_pos (show (bI (none : Option Nat).isSome, σ1).1 = 0 from rfl)]
        exact ⟨0, σ1, rfl, a2.m, rfl, a3⟩
      | some a =>
        obtain ⟨b1, b2, b3, b4⟩ := nm_b hnm
        obtain ⟨d1, d2⟩ := a5 a hnm
        rw [hnm] at a1'
        rw [a1', Option.bind_some, if_neg (show ¬ (bI (some a).isSome, σ1).1 = 0 from bIt), gd_h (by decide), c0]
        dsimp only
        rw [d1, vl_e, vl_e]
        have F1 : Fm σ (pI σ1 25 (nI a)) := a2.m.tr ⟨Fr.pI (by simp), fun _ _ => rfl⟩
        have hL : ∀ m, Ln m (fun _ _ => 0) = [] := fun m => Ln_zero (fun _ _ _ _ => rfl)
        obtain ⟨z, σ2, e1, e2, e3⟩ := f_mend_yes (σ := pI σ1 25 (nI a)) (p0 := p) (b := sk tx len (p + 1) + 1) (n := a) (w := fun _ _ => 0) (h.m F1) d2 (by omega) (by omega) rfl (by rw [hL]; rw [hL] at hr; exact hr.cg (by rw [gA_pI, a2.2.1 46 (by simp)])) (wok0 b1 b2)
        exact ⟨z, σ2, e1, F1.tr e2, e3⟩
    · rw [if_pos (show (0 : Int32) < nI items by rw [il_0]; exact nI_lt (by omega) (by omega)), if_neg ci]
      exact ⟨0, σ, rfl, Fm.rf, fault⟩
  · rw [if_neg (fun q => c (l1.mp q)), if_neg c]
    by_cases cc : tx p = 101
    · rw [if_pos (k1.mpr cc), if_pos cc, gd_h (by decide), c465, hr.1]
      by_cases c10 : (Ln n w).length = 10
      · rw [if_pos (show nI (Ln n w).length = 10 by rw [c10]; rfl), if_pos c10]
        exact ⟨0, σ, rfl, Fm.rf, fault⟩
      · rw [if_neg (show ¬ nI (Ln n w).length = 10 by rw [il_10, nI_eq (by omega) (by omega)]; exact c10), if_neg c10]
        obtain ⟨σ1, a1, a2, a3, a4, a5⟩ := f_reads_yes (j := 0) (lo := 0) (hi := n - 1) h (k2 cc) (by omega) (by omega) (by omega) (by omega)
        have a1' : f_X7_reads σ (0 : Int32) (0 : Int32) ((gI σ 25) - (1 : Int32)) = some (bI (nm tx len (sk tx len (p + 1)) 0 (n - 1)).isSome, σ1) := by
          rw [h25, sub1 (by omega)]
          exact a1
        have hge := sk_ge tx len (p + 1)
        unfold itL
        cases hnm : nm tx len (sk tx len (p + 1)) 0 (n - 1) with
        | none =>
          rw [hnm] at a1'
          rw [a1', Option.bind_some, if_pos (show (bI (none : Option Nat).isSome, σ1).1 = 0 from rfl)]
          exact ⟨0, σ1, rfl, a2.m, rfl, a3⟩
        | some u =>
          obtain ⟨b1, b2, b3, b4⟩ := nm_b hnm
          obtain ⟨d1, d2⟩ := a5 u hnm
          rw [hnm] at a1'
          rw [a1', Option.bind_some, if_neg (show ¬ (bI (some u).isSome, σ1).1 = 0 from bIt)]
          dsimp only
          unfold itV
          generalize hq1 : sk tx len (p + 1) = q1 at *
          have h25' : gI σ1 25 = nI n := (a2.1 25 (by simp)).trans h25
          obtain ⟨σ2, e1, e2, e3, e4, e5⟩ := f_reads_yes (σ := σ1) (j := 1) (lo := 0) (hi := n - 1) (h.m a2.m) d2 (by omega) (by omega) (by omega) (by omega)
          have e1' : f_X7_reads σ1 (1 : Int32) (0 : Int32) ((gI σ1 25) - (1 : Int32)) = some (bI (nm tx len (sk tx len (q1 + 1)) 0 (n - 1)).isSome, σ2) := by
            rw [h25', sub1 (by omega)]
            exact e1
          have hge' := sk_ge tx len (q1 + 1)
          have F2 : Fm σ σ2 := a2.m.tr e2.m
          cases hnm2 : nm tx len (sk tx len (q1 + 1)) 0 (n - 1) with
          | none =>
            rw [hnm2] at e1'
            rw [e1', Option.bind_some, if_pos (show (bI (none : Option Nat).isSome, σ2).1 = 0 from rfl)]
            exact ⟨0, σ2, rfl, F2, rfl, e3⟩
          | some v =>
            obtain ⟨g1, g2, g3, g4⟩ := nm_b hnm2
            obtain ⟨i1, i2⟩ := e5 v hnm2
            have hu50 : gA σ2 50 0 = nI u := (e4 0 (by omega)).trans d1
            have hr2 : RowAt σ2 465 (Ln n w) := hr.cg (by rw [e2.2.1 46 (by simp), a2.2.1 46 (by simp)])
            rw [hnm2] at e1'
            rw [e1', Option.bind_some, if_neg (show ¬ (bI (some v).isSome, σ2).1 = 0 from bIt), gd_h (by decide), gd_h (by decide), gd_h (by decide), gd_h (by decide), c0, c1']
            dsimp only
            rw [hu50, i1]
            by_cases huv : u = v
            · subst huv
              rw [if_pos rfl, if_pos (Or.inl rfl)]
              exact ⟨0, σ2, rfl, F2, rfl, e3⟩
            · rw [if_neg (show ¬ nI u = nI v by rw [nI_eq (by omega) (by omega)]; exact huv)]
              rcases f_lineOf_w (r := 465) hw (by omega) hr2 (show u < n by omega) (show v < n by omega) huv with ⟨hw0, hlo⟩ | ⟨hw0, t, htt, hlo⟩
              · have hlo' : f_X7_lineOf σ2 (465 : Int32) (nI u) (nI v) = some (-9) := hlo
                rw [hlo', Option.bind_some, if_pos rfl, if_neg (by rintro (q | q); exact huv q; exact q hw0)]
                unfold itW
                generalize hq2 : sk tx len (q1 + 1) = q2 at *
                obtain ⟨σ3, m1, m2, m3, m4, m5⟩ := f_reads_yes (σ := σ2) (j := 2) (lo := 1) (hi := 9) (h.m F2) i2 (by omega) (by omega) (by omega) (by omega)
                have m1' : f_X7_reads σ2 (2 : Int32) (1 : Int32) (9 : Int32) = some (bI (nm tx len (sk tx len (q2 + 1)) 1 9).isSome, σ3) := m1
                have hge'' := sk_ge tx len (q2 + 1)
                have F3 : Fm σ σ3 := F2.tr m2.m
                cases hnm3 : nm tx len (sk tx len (q2 + 1)) 1 9 with
                | none =>
                  rw [hnm3] at m1'
                  rw [m1', Option.bind_some, if_pos (show (bI (none : Option Nat).isSome, σ3).1 = 0 from rfl)]
                  exact ⟨0, σ3, rfl, F3, rfl, m3⟩
                | some a =>
                  obtain ⟨o1, o2, o3, o4⟩ := nm_b hnm3
                  obtain ⟨r1, r2⟩ := m5 a hnm3
                  rw [hnm3] at m1'
                  rw [m1', Option.bind_some, if_neg (show ¬ (bI (some a).isSome, σ3).1 = 0 from bIt), gd_h (by decide), gd_h (by decide), gd_h (by decide), c2']
                  dsimp only
                  rw [(m4 0 (by omega)).trans hu50, (m4 1 (by omega)).trans i1, r1]
                  generalize hq3 : sk tx len (q2 + 1) = q3 at *
                  obtain ⟨A, B, s1, s2, s3, s4⟩ := Ln_add (a := a) hw (show u < n by omega) (show v < n by omega) huv hw0 (by omega)
                  have hw' : wok n (w2 w u v a) := w2_wok hw huv (by omega) (by rw [s4]; rw [s1] at c10 hlen; simp at c10 hlen ⊢; omega)
                  have hr3 : RowAt σ3 465 (Ln n w) := hr2.cg (m2.2.1 46 (by simp))
                  obtain ⟨σ4, x1, x2, x3, x4⟩ := f_adds_yes (σ := σ3) (r := 465) (u := u) (v := v) (wd := a) (by omega) hr3 s1 (by omega) (Ln_b hn) (by omega) (by omega) (fun e he => Nat.le_of_lt (s2 e he)) s3
                  rw [← s4] at x3
                  have F4 : Fm σ σ4 := F3.tr ⟨Fr.mono x2 (by simp) (by simp) (by simp), fun q hq => x4 q (Or.inl hq)⟩
                  have x1' : f_X7_adds σ3 (465 : Int32) (nI u) (nI v) (nI a) = some σ4 := x1
                  obtain ⟨z, σ5, y1, y2, y3⟩ := f_mend_yes (σ := σ4) (p0 := p) (b := q3 + 1) (n := n) (w := w2 w u v a) (h.m F4) ((x2.1 22 (by simp)).trans r2) (by omega) (by omega) (by rw [x2.1 25 (by simp), m2.1 25 (by simp), e2.1 25 (by simp)]; exact h25') x3 hw'
                  rw [x1', Option.bind_some, y1]
                  exact ⟨z, σ5, rfl, F4.tr y2, y3⟩
              · have hlo' : f_X7_lineOf σ2 (465 : Int32) (nI u) (nI v) = some (nI t) := hlo
                have htl : t < (Ln n w).length := (List.getElem?_eq_some_iff.mp htt).1
                rw [hlo', Option.bind_some, if_neg (nI_m9 (by omega)), if_pos (Or.inr hw0)]
                exact ⟨0, σ2, rfl, F2, rfl, e3⟩
    · rw [if_neg (fun q => cc (k1.mp q)), if_neg cc]
      exact ⟨0, σ, rfl, Fm.rf, fault⟩
