/-! the reference tells a text -/
def Ty (σ : Sg) (tx : Nat → Int32) (len : Nat) : Prop := gI σ 19 = nI len ∧ len ≤ 80 ∧ ∀ i, i < len → gA σ 48 i = tx i
theorem Ty.fr {I A J : List Nat} {σ σ' : Sg} {tx : Nat → Int32} {len : Nat} (h : Ty σ tx len) (f : Fr I A J σ σ') (h1 : 19 ∉ I) (h2 : 48 ∉ A) : Ty σ' tx len := ⟨(f.1 19 h1).trans h.1, h.2.1, fun i hi => by rw [f.2.1 48 h2]; exact h.2.2 i hi⟩
abbrev FrK (σ σ' : Sg) : Prop := Fr [21, 22, 23, 24] [] [] σ σ'
theorem f_in_fg (x : Int32) : f_X7_in x.toInt64 (48 : Int64) (57 : Int64) = some (bI (fg x)) := by
  rw [show (48 : Int64) = (48 : Int32).toInt64 from rfl, show (57 : Int64) = (57 : Int32).toInt64 from rfl, f_in_i]
  unfold fg
  by_cases c1 : x < 48
  · rw [if_pos (Or.inl c1), decide_eq_true c1]
    rfl
  · by_cases c2 : 57 < x
    · rw [if_pos (Or.inr c2), decide_eq_false c1, decide_eq_true c2]
      rfl
    · rw [if_neg (by rintro (q | q); exact c1 q; exact c2 q), decide_eq_false c1, decide_eq_false c2]
      rfl
def Tok (σ : Sg) (tx : Nat → Int32) (len p : Nat) : Prop := gI σ 21 = nI p ∧ p ≤ len ∧ (p < len → fg (tx p) = false → gI σ 23 = tx p ∧ gI σ 22 = nI (p + 1)) ∧ (p < len → fg (tx p) = true → gI σ 23 = 48 ∧ (fg (lt1 tx len (p + 1)) = false → gI σ 22 = nI (p + 1) ∧ gI σ 24 = nI (dgt (tx p))) ∧ (fg (lt1 tx len (p + 1)) = true → gI σ 24 = -9))
theorem n_skip {σ : Sg} {tx : Nat → Int32} {len b : Nat} (h : Ty σ tx len) (hb : gI σ 21 = nI b) (hbl : b ≤ len) : ∃ σ', wl (fun a : Sg => f_X7_next_B8 a) FU σ = some σ' ∧ (Fr [21] [] [] σ σ' ∧ gI σ' 21 = nI (sk tx len b)) := by
  have hl := h.2.1
  refine wl_inv (N := len - b) (I := fun i (a : Sg) => Fr [21] [] [] σ a ∧ gI a 21 = nI (b + i) ∧ sk tx len (b + i) = sk tx len b) (fun i a hi hI => ?_) FU 0 σ ⟨Fr.rf, hb, rfl⟩ (Nat.zero_le _) (FU_big (by omega))
  obtain ⟨hF, h2, h3⟩ := hI
  have hT := h.fr hF (by simp) (by simp)
  have hs := sk_step tx len (b + i)
  unfold f_X7_next_B8
  rw [hT.1, h2]
  by_cases c : b + i < len
  · rw [if_neg (nI_ge c (by omega)), gd_h (okI_nI (by omega) (by omega)), nI_clamp (by omega), hT.2.2 _ c]
    by_cases c2 : tx (b + i) = 32
    · rw [if_pos ⟨c, c2⟩] at hs
      rw [if_pos c2, vl_e, nI_1, vl_e]
      exact ⟨_, rfl, Or.inl ⟨_, rfl, by omega, hF.tr (Fr.pI (by simp)), by rw [gI_pI, if_pos rfl]; rfl, by rw [← h3, hs]; rfl⟩⟩
    · rw [if_neg (fun q => c2 q.2)] at hs
      rw [if_neg c2]
      exact ⟨_, rfl, Or.inr ⟨a, rfl, hF, by rw [h2, ← h3, hs]⟩⟩
  · rw [if_neg (fun q => c q.1)] at hs
    rw [if_pos (nI_le (by omega) (by omega))]
    exact ⟨_, rfl, Or.inr ⟨a, rfl, hF, by rw [h2, ← h3, hs]⟩⟩
theorem n_more {σ : Sg} {tx : Nat → Int32} {len q : Nat} (h : Ty σ tx len) (hq : q < len) (h22 : gI σ 22 = nI (q + 1)) : ∃ σ', wl (fun a : Sg => f_X7_next_B117 a) FU σ = some σ' ∧ (Fr [22] [] [] σ σ' ∧ ∃ e, gI σ' 22 = nI e ∧ q + 1 ≤ e ∧ e ≤ len ∧ (e = q + 1 ↔ fg (lt1 tx len (q + 1)) = false)) := by
  have hl := h.2.1
  refine wl_inv (N := len - (q + 1)) (I := fun j (a : Sg) => Fr [22] [] [] σ a ∧ gI a 22 = nI (q + 1 + j) ∧ (0 < j → fg (lt1 tx len (q + 1)) = true)) (fun j a hj hI => ?_) FU 0 σ ⟨Fr.rf, h22, fun r => by omega⟩ (Nat.zero_le _) (FU_big (by omega))
  obtain ⟨hF, h2, h3⟩ := hI
  have hT := h.fr hF (by simp) (by simp)
  have stop : (j = 0 → fg (lt1 tx len (q + 1)) = false) → ∃ e, gI a 22 = nI e ∧ q + 1 ≤ e ∧ e ≤ len ∧ (e = q + 1 ↔ fg (lt1 tx len (q + 1)) = false) := fun r => by
    refine ⟨q + 1 + j, h2, by omega, by omega, ⟨fun s => r (by omega), fun s => ?_⟩⟩
    rcases Nat.eq_zero_or_pos j with z | z
    · omega
    · rw [h3 z] at s
      cases s
  unfold f_X7_next_B117
  rw [hT.1, h2]
  by_cases c : q + 1 + j < len
  · rw [if_neg (nI_ge c (by omega)), gd_h (okI_nI (by omega) (by omega)), nI_clamp (by omega), hT.2.2 _ c, f_in_fg, Option.bind_some]
    cases f : fg (tx (q + 1 + j))
    · rw [if_pos bIf]
      refine ⟨_, rfl, Or.inr ⟨a, rfl, hF, stop (fun z => ?_)⟩⟩
      subst z
      unfold lt1
      rw [if_pos c]
      exact f
    · rw [if_neg bIt, nI_1, vl_e, vl_e]
      refine ⟨_, rfl, Or.inl ⟨_, rfl, by omega, hF.tr (Fr.pI (by simp)), by rw [gI_pI, if_pos rfl]; rfl, fun _ => ?_⟩⟩
      rcases Nat.eq_zero_or_pos j with z | z
      · subst z
        unfold lt1
        rw [if_pos c]
        exact f
      · exact h3 z
  · rw [if_pos (nI_le (by omega) (by omega))]
    refine ⟨_, rfl, Or.inr ⟨a, rfl, hF, stop (fun z => ?_)⟩⟩
    subst z
    unfold lt1
    rw [if_neg c]
    decide
theorem f_next_yes {σ : Sg} {tx : Nat → Int32} {len b : Nat} (h : Ty σ tx len) (hb : gI σ 22 = nI b) (hbl : b ≤ len) : ∃ σ', f_X7_next σ = some σ' ∧ FrK σ σ' ∧ Tok σ' tx len (sk tx len b) := by
  have hl := h.2.1
  have hq := sk_le (tx := tx) hbl
  have F0 : FrK σ (pI σ 21 (nI b)) := Fr.pI (by simp)
  obtain ⟨σ1, a1, a2, a3⟩ := n_skip (σ := pI σ 21 (nI b)) (h.fr F0 (by simp) (by simp)) (by rw [gI_pI, if_pos rfl]) hbl
  generalize sk tx len b = q at *
  have F1 : FrK σ σ1 := F0.tr (Fr.mono a2 (by simp) (by simp) (by simp))
  have hT1 := h.fr F1 (by simp) (by simp)
  have F4 : FrK σ (pI (pI (pI σ1 22 (nI q)) 24 (-9)) 23 0) := ((F1.tr (Fr.pI (by simp))).tr (Fr.pI (by simp))).tr (Fr.pI (by simp))
  have g21 : gI (pI (pI (pI σ1 22 (nI q)) 24 (-9)) 23 0) 21 = nI q := a3
  have g19 : gI (pI (pI (pI σ1 22 (nI q)) 24 (-9)) 23 0) 19 = nI len := hT1.1
  have g22 : gI (pI (pI (pI σ1 22 (nI q)) 24 (-9)) 23 0) 22 = nI q := rfl
  have e0 : f_X7_next σ = (if (gI (pI (pI (pI σ1 22 (nI q)) 24 (-9)) 23 0) 21) = (gI (pI (pI (pI σ1 22 (nI q)) 24 (-9)) 23 0) 19) then some (pI (pI (pI σ1 22 (nI q)) 24 (-9)) 23 0) else vl ((gI (pI (pI (pI σ1 22 (nI q)) 24 (-9)) 23 0) 22) + (1 : Int32)) (fun x15 => vl (pI (pI (pI (pI σ1 22 (nI q)) 24 (-9)) 23 0) 22 x15) (fun σ16 => gd (okI (gI σ16 21) 80) (vl (gA σ16 48 (gI σ16 21).toNatClampNeg) (fun x18 => vl (pI σ16 23 x18) (fun σ19 => (f_X7_in ((gI σ19 23).toInt64) (48 : Int64) (57 : Int64)).bind (fun t20 => (if t20 = 0 then some σ19 else (wl (fun a => f_X7_next_B117 a) FU σ19).bind (fun t29 => (if ((gI t29 22) - (gI t29 21)) = (1 : Int32) then f_X7_next_J189 t29 ((gI t29 23) - (48 : Int32)) else f_X7_next_J189 t29 (-9 : Int32))))))))))) := by
    unfold f_X7_next
    rw [hb, vl_e, vl_e, a1, Option.bind_some, a3, vl_e, vl_e, vl_e, vl_e]
  rw [e0, g21, g19, g22]
  by_cases c : q = len
  · rw [if_pos (by rw [c])]
    exact ⟨_, rfl, F4, g21, hq, fun r => by omega, fun r => by omega⟩
  · have hlt : q < len := by omega
    rw [if_neg (by rw [nI_eq (by omega) (by omega)]; exact c), nI_1, vl_e, vl_e]
    have F5 : FrK σ (pI (pI (pI (pI σ1 22 (nI q)) 24 (-9)) 23 0) 22 (nI (q + 1))) := F4.tr (Fr.pI (by simp))
    rw [show gI (pI (pI (pI (pI σ1 22 (nI q)) 24 (-9)) 23 0) 22 (nI (q + 1))) 21 = nI q from a3, gd_h (okI_nI (by omega) (by omega)), nI_clamp (by omega), show gA (pI (pI (pI (pI σ1 22 (nI q)) 24 (-9)) 23 0) 22 (nI (q + 1))) 48 q = tx q from hT1.2.2 q hlt, vl_e, vl_e]
    have F6 : FrK σ (pI (pI (pI (pI (pI σ1 22 (nI q)) 24 (-9)) 23 0) 22 (nI (q + 1))) 23 (tx q)) := F5.tr (Fr.pI (by simp))
    rw [show gI (pI (pI (pI (pI (pI σ1 22 (nI q)) 24 (-9)) 23 0) 22 (nI (q + 1))) 23 (tx q)) 23 = tx q from rfl, f_in_fg, Option.bind_some]
    cases f : fg (tx q)
    · rw [if_pos bIf]
      exact ⟨_, rfl, F6, a3, hq, fun _ _ => ⟨rfl, rfl⟩, fun _ r => by rw [f] at r; cases r⟩
    · obtain ⟨d, hd, d1, d2, d3⟩ := fg_nat f
      rw [if_neg bIt]
      obtain ⟨σ2, m1, m2, e, m3, m4, m5, m6⟩ := n_more (σ := pI (pI (pI (pI (pI σ1 22 (nI q)) 24 (-9)) 23 0) 22 (nI (q + 1))) 23 (tx q)) (q := q) (h.fr F6 (by simp) (by simp)) hlt rfl
      have F7 : FrK σ σ2 := F6.tr (Fr.mono m2 (by simp) (by simp) (by simp))
      have h21 : gI σ2 21 = nI q := (m2.1 21 (by simp)).trans a3
      have h23 : gI σ2 23 = tx q := (m2.1 23 (by simp)).trans rfl
      rw [m1, Option.bind_some, m3, h21, pk_sub (by omega), h23]
      unfold f_X7_next_J189
      cases f2 : fg (lt1 tx len (q + 1))
      · have he := m6.mpr f2
        rw [if_pos (by rw [he, show q + 1 - q = 1 by omega]; rfl), vl_e, vl_e]
        refine ⟨_, rfl, (F7.tr (Fr.pI (by simp))).tr (Fr.pI (by simp)), h21, hq, fun _ r => (by rw [f] at r; cases r), fun _ _ => ⟨rfl, fun _ => ⟨?_, ?_⟩, fun r => by rw [f2] at r; cases r⟩⟩
        · show gI σ2 22 = _
          rw [m3, he]
        · show tx q - 48 = _
          rw [d2, d3]
      · have he : ¬ e = q + 1 := fun r => by
          have := m6.mp r
          rw [f2] at this
          cases this
        rw [if_neg (by rw [il_1, nI_eq (by omega) (by omega)]; omega), vl_e, vl_e]
        exact ⟨_, rfl, (F7.tr (Fr.pI (by simp))).tr (Fr.pI (by simp)), h21, hq, fun _ r => (by rw [f] at r; cases r), fun _ _ => ⟨rfl, fun r => (by rw [f2] at r; cases r), fun _ => rfl⟩⟩
abbrev FrR (σ σ' : Sg) : Prop := Fr [21, 22, 23, 24] [50] [] σ σ'
theorem m9_lt {a : Nat} (h : a < 2 ^ 31) : (-9 : Int32) < nI a := by
  rw [Int32.lt_iff_toInt_lt, nI_toInt h]
  have : ((-9 : Int32)).toInt = -9 := rfl
  omega
theorem f_reads_yes {σ : Sg} {tx : Nat → Int32} {len b j lo hi : Nat} (h : Ty σ tx len) (hb : gI σ 22 = nI b) (hbl : b ≤ len) (hj : j < 3) (hlo : lo ≤ 9) (hhi : hi ≤ 9) : ∃ σ', f_X7_reads σ (nI j) (nI lo) (nI hi) = some (bI (nm tx len (sk tx len b) lo hi).isSome, σ') ∧ FrR σ σ' ∧ gI σ' 21 = nI (sk tx len b) ∧ (∀ i, i ≠ j → gA σ' 50 i = gA σ 50 i) ∧ ∀ a, nm tx len (sk tx len b) lo hi = some a → gA σ' 50 j = nI a ∧ gI σ' 22 = nI (sk tx len b + 1) := by
  have hl := h.2.1
  obtain ⟨σ1, a1, a2, t1, t2, t3, t4⟩ := f_next_yes h hb hbl
  have h19 : gI σ1 19 = nI len := (a2.1 19 (by simp)).trans h.1
  generalize sk tx len b = q at *
  have F1 : FrR σ (pA σ1 50 j (gI σ1 24)) := (Fr.mono a2 (by simp) (by simp) (by simp)).tr (Fr.pA (by simp))
  have oth : ∀ i, i ≠ j → gA (pA σ1 50 j (gI σ1 24)) 50 i = gA σ 50 i := fun i hij => by
    rw [gA_pA, if_pos rfl, upd_at, if_neg hij, a2.2.1 50 (by simp)]
  have e0 : f_X7_reads σ (nI j) (nI lo) (nI hi) = (if nI q = nI len then some ((0 : Int32), pA σ1 50 j (gI σ1 24)) else (if gI σ1 23 = (48 : Int32) then (f_X7_in ((gI σ1 24).toInt64) (nI lo).toInt64 (nI hi).toInt64).bind (fun t8 => (if t8 = 0 then some ((0 : Int32), pA σ1 50 j (gI σ1 24)) else some ((1 : Int32), pA σ1 50 j (gI σ1 24)))) else some ((0 : Int32), pA σ1 50 j (gI σ1 24)))) := by
    unfold f_X7_reads f_X7_isEnd
    rw [a1, Option.bind_some, vl_e, gd_h (okI_nI hj (by omega)), nI_clamp (by omega), vl_e, show gI (pA σ1 50 j (gI σ1 24)) 21 = nI q from t1, show gI (pA σ1 50 j (gI σ1 24)) 19 = nI len from h19]
    by_cases c : nI q = nI len
    · rw [if_pos c, if_pos c, Option.bind_some, if_neg ne10]
    · rw [if_neg c, if_neg c, Option.bind_some, if_pos rfl]
      rfl
  have no : nm tx len q lo hi = none → f_X7_reads σ (nI j) (nI lo) (nI hi) = some (0, pA σ1 50 j (gI σ1 24)) → ∃ σ', f_X7_reads σ (nI j) (nI lo) (nI hi) = some (bI (nm tx len q lo hi).isSome, σ') ∧ FrR σ σ' ∧ gI σ' 21 = nI q ∧ (∀ i, i ≠ j → gA σ' 50 i = gA σ 50 i) ∧ ∀ a, nm tx len q lo hi = some a → gA σ' 50 j = nI a ∧ gI σ' 22 = nI (q + 1) := fun hn he => by
    rw [hn]
    exact ⟨_, he, F1, t1, oth, fun a r => by cases r⟩
  by_cases c : q < len
  · rw [if_neg (by rw [nI_eq (by omega) (by omega)]; omega)] at e0
    have hlt : lt1 tx len q = tx q := by unfold lt1; rw [if_pos c]
    cases f : fg (tx q)
    · obtain ⟨u1, u2⟩ := t3 c f
      refine no (by unfold nm; rw [hlt, if_neg (fun r => by rw [f] at r; cases r.1)]) ?_
      rw [e0, u1, if_neg (fun r => by rw [r] at f; revert f; decide)]
    · obtain ⟨d, hd, d1, d2, d3⟩ := fg_nat f
      obtain ⟨u1, u2, u3⟩ := t4 c f
      rw [u1, if_pos rfl] at e0
      cases f2 : fg (lt1 tx len (q + 1))
      · obtain ⟨v1, v2⟩ := u2 f2
        rw [v2, d3, f_in_i] at e0
        by_cases cr : lo ≤ d ∧ d ≤ hi
        · have hn : nm tx len q lo hi = some d := by
            unfold nm
            rw [hlt, if_pos ⟨f, f2, by rw [d3]; exact cr.1, by rw [d3]; exact cr.2⟩, d3]
          rw [if_neg (by rintro (r | r); exact nI_nlt cr.1 (by omega) r; exact nI_nlt cr.2 (by omega) r), Option.bind_some, if_neg ne10] at e0
          rw [hn]
          rw [v2, d3] at F1 oth
          refine ⟨_, e0, F1, t1, oth, fun a r => ?_⟩
          cases r
          exact ⟨by rw [gA_pA, if_pos rfl, upd_at, if_pos rfl], v1⟩
        · have hn : nm tx len q lo hi = none := by
            unfold nm
            rw [hlt, if_neg (fun r => cr (by rw [d3] at r; exact ⟨r.2.2.1, r.2.2.2⟩))]
          have hor : nI d < nI lo ∨ nI hi < nI d := by
            by_cases c1 : lo ≤ d
            · exact Or.inr (nI_lt (by omega) (by omega))
            · exact Or.inl (nI_lt (by omega) (by omega))
          rw [if_pos hor, Option.bind_some, if_pos rfl] at e0
          refine no hn ?_
          rw [v2, d3]
          exact e0
      · have v2 := u3 f2
        have hn : nm tx len q lo hi = none := by
          unfold nm
          rw [f2, if_neg (fun r => by cases r.2.1)]
        rw [v2, f_in_i, if_pos (Or.inl (m9_lt (by omega))), Option.bind_some, if_pos rfl] at e0
        refine no hn ?_
        rw [v2]
        exact e0
  · rw [if_pos (by rw [show q = len by omega])] at e0
    refine no ?_ e0
    unfold nm lt1
    rw [if_neg c, if_neg (fun r => by cases r.1)]
