/-! a text told: what both do, as a plain function -/
def skn (tx : Nat → Int32) (len : Nat) : Nat → Nat → Nat
  | 0, p => p
  | k + 1, p => if p < len ∧ tx p = 32 then skn tx len k (p + 1) else p
def sk (tx : Nat → Int32) (len p : Nat) : Nat := skn tx len (len - p) p
theorem sk_step (tx : Nat → Int32) (len p : Nat) : sk tx len p = if p < len ∧ tx p = 32 then sk tx len (p + 1) else p := by
  unfold sk
  by_cases h : p < len
  · rw [show len - p = (len - (p + 1)) + 1 by omega]
    rfl
  · rw [show len - p = 0 by omega, if_neg (fun q => h q.1)]
    rfl
theorem skn_b {tx : Nat → Int32} {len : Nat} : ∀ k p, p ≤ skn tx len k p ∧ (p ≤ len → skn tx len k p ≤ len)
  | 0, p => ⟨Nat.le_refl _, fun h => h⟩
  | k + 1, p => by
    unfold skn
    split
    · rename_i c
      have := skn_b (tx := tx) (len := len) k (p + 1)
      exact ⟨by omega, fun _ => this.2 (by omega)⟩
    · exact ⟨Nat.le_refl _, fun h => h⟩
theorem sk_ge (tx : Nat → Int32) (len p : Nat) : p ≤ sk tx len p := (skn_b _ p).1
theorem sk_le {tx : Nat → Int32} {len p : Nat} (h : p ≤ len) : sk tx len p ≤ len := (skn_b _ p).2 h
def lt1 (tx : Nat → Int32) (len i : Nat) : Int32 := if i < len then tx i else -1
def fg (x : Int32) : Bool := !(decide (x < 48)) && !(decide (57 < x))
def dgt (x : Int32) : Nat := (x - 48).toNatClampNeg
theorem fg_nat {x : Int32} (h : fg x = true) : ∃ d, d ≤ 9 ∧ x = nI (48 + d) ∧ x - 48 = nI d ∧ dgt x = d := by
  unfold fg at h
  rw [Bool.and_eq_true, Bool.not_eq_true', Bool.not_eq_true', decide_eq_false_iff_not, decide_eq_false_iff_not] at h
  have h0 : ¬ x < 0 := fun q => h.1 (Int32.lt_of_lt_of_le q (by decide))
  obtain ⟨j, hj, rfl⟩ := nI_of2 (M := 57) (n := 57) rfl h0 (Int32.not_lt.mp h.2)
  have h48 : 48 ≤ j := Classical.byContradiction fun q => h.1 (by rw [il_48]; exact nI_lt (by omega) (by omega))
  refine ⟨j - 48, by omega, by rw [show 48 + (j - 48) = j by omega], ?_, ?_⟩
  · rw [il_48, pk_sub h48]
  · unfold dgt
    rw [il_48, pk_sub h48, nI_clamp (by omega)]
def nm (tx : Nat → Int32) (len q lo hi : Nat) : Option Nat := if fg (lt1 tx len q) = true ∧ fg (lt1 tx len (q + 1)) = false ∧ lo ≤ dgt (lt1 tx len q) ∧ dgt (lt1 tx len q) ≤ hi then some (dgt (lt1 tx len q)) else none
def nmI (o : Option Nat) : Int32 := match o with
  | some a => nI a
  | none => -1
/-- the end of an item -/
def itE (tx : Nat → Int32) (len p : Nat) (n : Nat) (w : Nat → Nat → Nat) : Nat ⊕ (Nat × (Nat → Nat → Nat) × Nat) := if lt1 tx len (sk tx len p) = 59 then .inr (n, w, sk tx len p + 1) else .inl (sk tx len p)
def itN (tx : Nat → Int32) (len p : Nat) : Nat ⊕ (Nat × (Nat → Nat → Nat) × Nat) := match nm tx len (sk tx len (p + 1)) 2 6 with
  | none => .inl (sk tx len (p + 1))
  | some a => itE tx len (sk tx len (p + 1) + 1) a (fun _ _ => 0)
def itW (tx : Nat → Int32) (len p n : Nat) (w : Nat → Nat → Nat) (u v : Nat) : Nat ⊕ (Nat × (Nat → Nat → Nat) × Nat) := match nm tx len (sk tx len p) 1 9 with
  | none => .inl (sk tx len p)
  | some a => itE tx len (sk tx len p + 1) n (w2 w u v a)
def itV (tx : Nat → Int32) (len p n : Nat) (w : Nat → Nat → Nat) (u : Nat) : Nat ⊕ (Nat × (Nat → Nat → Nat) × Nat) := match nm tx len (sk tx len p) 0 (n - 1) with
  | none => .inl (sk tx len p)
  | some v => if u = v ∨ w u v ≠ 0 then .inl (sk tx len p) else itW tx len (sk tx len p + 1) n w u v
def itL (tx : Nat → Int32) (len p n : Nat) (w : Nat → Nat → Nat) : Nat ⊕ (Nat × (Nat → Nat → Nat) × Nat) := match nm tx len (sk tx len (p + 1)) 0 (n - 1) with
  | none => .inl (sk tx len (p + 1))
  | some u => itV tx len (sk tx len (p + 1) + 1) n w u
def itm (tx : Nat → Int32) (len p items n : Nat) (w : Nat → Nat → Nat) : Nat ⊕ (Nat × (Nat → Nat → Nat) × Nat) :=
  if tx p = 110 then (if items = 0 then itN tx len p else .inl p)
  else if tx p = 101 then (if (Ln n w).length = 10 then .inl p else itL tx len p n w)
  else .inl p
/-! the class's reading -/
def Tx (σ : Sg) (tx : Nat → Int32) (len : Nat) : Prop := gI σ 1 = nI len ∧ len ≤ 80 ∧ ∀ i, i < len → gA σ 2 i = tx i
abbrev Fr2 (σ σ' : Sg) : Prop := Fr [2] [] [] σ σ'
theorem Tx.fr {I A J : List Nat} {σ σ' : Sg} {tx : Nat → Int32} {len : Nat} (h : Tx σ tx len) (f : Fr I A J σ σ') (h1 : 1 ∉ I) (h2 : 2 ∉ A) : Tx σ' tx len := ⟨(f.1 1 h1).trans h.1, h.2.1, fun i hi => by rw [f.2.1 2 h2]; exact h.2.2 i hi⟩
theorem f_letter_yes {σ : Sg} {tx : Nat → Int32} {len i : Nat} (h : Tx σ tx len) (hi : i < 1000) : f_X4_letterAt σ (nI i) = some (lt1 tx len i) := by
  have hl := h.2.1
  unfold f_X4_letterAt lt1
  rw [if_neg (nI_pos (by omega)), h.1]
  by_cases c : i < len
  · rw [if_neg (nI_ge c (by omega)), gd_h (okI_nI (by omega) (by omega)), nI_clamp (by omega), h.2.2 i c, if_pos c]
  · rw [if_pos (nI_le (by omega) (by omega)), if_neg c]
theorem f_fig_yes (x : Int32) : f_X4_isFigure x = some (bI (fg x)) := by
  unfold f_X4_isFigure fg
  by_cases c1 : x < 48
  · rw [if_pos c1, decide_eq_true c1]
    rfl
  · rw [if_neg c1, decide_eq_false c1]
    by_cases c2 : 57 < x
    · rw [if_pos c2, decide_eq_true c2]
      rfl
    · rw [if_neg c2, decide_eq_false c2]
      rfl
theorem f_skip_yes {σ : Sg} {tx : Nat → Int32} {len p : Nat} (h : Tx σ tx len) (hp : gI σ 2 = nI p) (hp2 : p < 500) : ∃ σ', f_X4_skipBlanks σ = some σ' ∧ Fr2 σ σ' ∧ gI σ' 2 = nI (sk tx len p) := by
  have hl := h.2.1
  unfold f_X4_skipBlanks
  have key := wl_inv (body := fun a : Sg => f_X4_skipBlanks_B0 a) (N := len - p) (I := fun i (a : Sg) => Fr2 σ a ∧ gI a 2 = nI (p + i) ∧ sk tx len (p + i) = sk tx len p) (Post := fun b => Fr2 σ b ∧ gI b 2 = nI (sk tx len p)) (fun i a hi hI => ?_) FU 0 σ ⟨Fr.rf, hp, rfl⟩ (Nat.zero_le _) (FU_big (by omega))
  · obtain ⟨σ', k1, k2, k3⟩ := key
    rw [k1]
    exact ⟨σ', rfl, k2, k3⟩
  · obtain ⟨hF, h2, h3⟩ := hI
    have hT := h.fr hF (by simp) (by simp)
    have hs := sk_step tx len (p + i)
    unfold f_X4_skipBlanks_B0
    rw [hT.1, h2]
    by_cases c : p + i < len
    · rw [if_neg (nI_ge c (by omega)), f_letter_yes hT (by omega), Option.bind_some]
      unfold lt1
      rw [if_pos c]
      by_cases c2 : tx (p + i) = 32
      · rw [if_pos ⟨c, c2⟩] at hs
        rw [if_pos c2, vl_e, nI_1, vl_e]
        exact ⟨_, rfl, Or.inl ⟨_, rfl, by omega, hF.tr (Fr.pI (by simp)), by rw [gI_pI, if_pos rfl]; rfl, by rw [← h3, hs]; rfl⟩⟩
      · rw [if_neg (fun q => c2 q.2)] at hs
        rw [if_neg c2]
        exact ⟨_, rfl, Or.inr ⟨a, rfl, hF, by rw [h2, ← h3, hs]⟩⟩
    · rw [if_neg (fun q => c q.1)] at hs
      rw [if_pos (nI_le (by omega) (by omega))]
      exact ⟨_, rfl, Or.inr ⟨a, rfl, hF, by rw [h2, ← h3, hs]⟩⟩
theorem f_num_yes {σ : Sg} {tx : Nat → Int32} {len p lo hi : Nat} (h : Tx σ tx len) (hp : gI σ 2 = nI p) (hpl : p ≤ len) (hlo : lo ≤ 9) (hhi : hi ≤ 9) : ∃ σ', f_X4_numberAhead σ (nI lo) (nI hi) = some (nmI (nm tx len (sk tx len p) lo hi), σ') ∧ Fr2 σ σ' ∧ gI σ' 2 = nI (sk tx len p) := by
  have hl := h.2.1
  obtain ⟨σ1, a1, a2, a3⟩ := f_skip_yes h hp (by omega)
  have hq := sk_le (tx := tx) hpl
  have hT := h.fr a2 (by simp) (by simp)
  refine ⟨σ1, ?_, a2, a3⟩
  unfold f_X4_numberAhead
  rw [a1, Option.bind_some, a3, f_letter_yes hT (by omega), Option.bind_some, f_fig_yes, Option.bind_some]
  unfold nm
  cases q1 : fg (lt1 tx len (sk tx len p))
  · rw [if_pos bIf, if_neg (fun r => by cases r.1)]
    rfl
  · obtain ⟨d, hd, e1, e2, e3⟩ := fg_nat q1
    rw [if_neg bIt, nI_1, f_letter_yes hT (by omega), Option.bind_some, f_fig_yes, Option.bind_some]
    cases q2 : fg (lt1 tx len (sk tx len p + 1))
    · rw [if_pos bIf, Option.bind_some, e2, vl_e, e3]
      by_cases c1 : lo ≤ d
      · rw [if_neg (nI_nlt c1 (by omega))]
        by_cases c2 : d ≤ hi
        · rw [if_neg (nI_nlt c2 (by omega)), if_pos ⟨rfl, rfl, c1, c2⟩]
          rfl
        · rw [if_pos (nI_lt (by omega) (by omega)), if_neg (fun r => c2 r.2.2.2)]
          rfl
      · rw [if_pos (nI_lt (by omega) (by omega)), if_neg (fun r => c1 r.2.2.1)]
        rfl
    · rw [if_neg bIt, if_neg (fun r => by cases r.2.1)]
      rfl
theorem nm_b {tx : Nat → Int32} {len q lo hi a : Nat} (h : nm tx len q lo hi = some a) : lo ≤ a ∧ a ≤ hi ∧ a ≤ 9 ∧ q < len := by
  unfold nm at h
  split at h
  · rename_i c
    cases h
    obtain ⟨d, hd, e1, e2, e3⟩ := fg_nat c.1
    refine ⟨c.2.2.1, c.2.2.2, by omega, Classical.byContradiction fun r => ?_⟩
    have := c.1
    unfold lt1 at this
    rw [if_neg r] at this
    cases this
  · cases h
