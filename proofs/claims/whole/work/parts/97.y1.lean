/-! smaller nets: the class's rows -/
def Sx (σ : Sg) (n : Nat) (U D : Nat → Nat → Nat) : Prop := gI σ 16 = nI n ∧ ∀ a b, a < n → b < n → gJ σ 41 (a * 6 + b) = lN (D a b) ∧ (D a b ≠ 0 → gJ σ 40 (a * 6 + b) = lN (U a b))
/-- a pair set both ways -/
def p2 (F : Nat → Nat → Nat) (a b z : Nat) : Nat → Nat → Nat := fun x y => if (x = a ∧ y = b) ∨ (x = b ∧ y = a) then z else F x y
abbrev FrS (σ σ' : Sg) : Prop := Fr [] [] [40, 41] σ σ'
theorem f_isPair_yes {σ : Sg} {n a b : Nat} (h : gI σ 16 = nI n) (hn : n ≤ 6) (ha : a < n) (hb : b < n) : f_X3_isPair σ (nI a) (nI b) = some 1 := by
  unfold f_X3_isPair
  rw [h, if_neg (nI_pos (by omega)), if_neg (nI_ge ha (by omega)), if_neg (nI_pos (by omega)), if_neg (nI_ge hb (by omega))]
theorem f_sput_yes {σ : Sg} {n a b u d : Nat} {U D : Nat → Nat → Nat} (h : Sx σ n U D) (hn : n ≤ 6) (ha : a < n) (hb : b < n) : ∃ σ', f_X3_put σ (nI a) (nI b) (lN u) (lN d) = some σ' ∧ FrS σ σ' ∧ Sx σ' n (p2 U a b u) (p2 D a b d) := by
  unfold f_X3_put
  rw [f_isPair_yes h.1 hn ha hb, Option.bind_some, if_neg ne10, ix6, ix6, gd_h (okI_nI (by omega) (by omega)), nI_clamp (by omega), vl_e, gd_h (okI_nI (by omega) (by omega)), vl_e, gd_h (okI_nI (by omega) (by omega)), nI_clamp (by omega), vl_e, gd_h (okI_nI (by omega) (by omega)), vl_e]
  refine ⟨_, rfl, (((Fr.pJ (by simp)).tr (Fr.pJ (by simp))).tr (Fr.pJ (by simp))).tr (Fr.pJ (by simp)), h.1, fun x y hx hy => ?_⟩
  have e41 : gJ (pJ (pJ (pJ (pJ σ 40 (a * 6 + b) (lN u)) 41 (a * 6 + b) (lN d)) 40 (b * 6 + a) (lN u)) 41 (b * 6 + a) (lN d)) 41 (x * 6 + y) = if (x = a ∧ y = b) ∨ (x = b ∧ y = a) then lN d else gJ σ 41 (x * 6 + y) := by
    show vp_updL (vp_updL (gJ σ 41) (a * 6 + b) (lN d)) (b * 6 + a) (lN d) (x * 6 + y) = _
    rw [updL_at, updL_at]
    by_cases c1 : x * 6 + y = b * 6 + a
    · rw [if_pos c1, if_pos (Or.inr (by omega))]
    · rw [if_neg c1]
      by_cases c2 : x * 6 + y = a * 6 + b
      · rw [if_pos c2, if_pos (Or.inl (by omega))]
      · rw [if_neg c2, if_neg (by rintro (⟨rfl, rfl⟩ | ⟨rfl, rfl⟩) <;> omega)]
  have e40 : gJ (pJ (pJ (pJ (pJ σ 40 (a * 6 + b) (lN u)) 41 (a * 6 + b) (lN d)) 40 (b * 6 + a) (lN u)) 41 (b * 6 + a) (lN d)) 40 (x * 6 + y) = if (x = a ∧ y = b) ∨ (x = b ∧ y = a) then lN u else gJ σ 40 (x * 6 + y) := by
    show vp_updL (vp_updL (gJ σ 40) (a * 6 + b) (lN u)) (b * 6 + a) (lN u) (x * 6 + y) = _
    rw [updL_at, updL_at]
    by_cases c1 : x * 6 + y = b * 6 + a
    · rw [if_pos c1, if_pos (Or.inr (by omega))]
    · rw [if_neg c1]
      by_cases c2 : x * 6 + y = a * 6 + b
      · rw [if_pos c2, if_pos (Or.inl (by omega))]
      · rw [if_neg c2, if_neg (by rintro (⟨rfl, rfl⟩ | ⟨rfl, rfl⟩) <;> omega)]
  rw [e41, e40]
  unfold p2
  by_cases c : (x = a ∧ y = b) ∨ (x = b ∧ y = a)
  · rw [if_pos c, if_pos c, if_pos c, if_pos c]
    exact ⟨rfl, fun _ => rfl⟩
  · rw [if_neg c, if_neg c, if_neg c, if_neg c]
    exact h.2 x y hx hy
theorem f_lower_yes {σ : Sg} {n a b : Nat} {U D : Nat → Nat → Nat} (h : Sx σ n U D) (hn : n ≤ 6) (ha : a < n) (hb : b < n) : f_X3_lowerAt σ (nI a) (nI b) = some (lN (D a b)) := by
  unfold f_X3_lowerAt
  rw [f_isPair_yes h.1 hn ha hb, Option.bind_some, if_neg ne10, ix6, gd_h (okI_nI (by omega) (by omega)), nI_clamp (by omega), (h.2 a b ha hb).1]
theorem f_upper_yes {σ : Sg} {n a b : Nat} {U D : Nat → Nat → Nat} (h : Sx σ n U D) (hn : n ≤ 6) (ha : a < n) (hb : b < n) (hd : D a b ≠ 0) : f_X3_upperAt σ (nI a) (nI b) = some (lN (U a b)) := by
  unfold f_X3_upperAt
  rw [f_isPair_yes h.1 hn ha hb, Option.bind_some, if_neg ne10, ix6, gd_h (okI_nI (by omega) (by omega)), nI_clamp (by omega), (h.2 a b ha hb).2 hd]
/-- all is small -/
def Sz (n : Nat) (U D : Nat → Nat → Nat) : Prop := ∀ a b, a < n → b < n → D a b ≠ 0 → U a b < 2 ^ 62 ∧ D a b < 2 ^ 62
theorem f_joined_yes {σ : Sg} {n a b : Nat} {U D : Nat → Nat → Nat} (h : Sx σ n U D) (hn : n ≤ 6) (hz : Sz n U D) (ha : a < n) (hb : b < n) : f_X3_joined σ (nI a) (nI b) = some (bI (decide (D a b ≠ 0))) := by
  unfold f_X3_joined
  rw [f_lower_yes h hn ha hb, Option.bind_some]
  by_cases c : D a b = 0
  · rw [c, if_pos (show lN 0 = 0 from rfl), decide_eq_false (by simp)]
    rfl
  · have := (hz a b ha hb c).2
    rw [if_neg (fun q => c ((lN_0 (by omega)).mp q)), decide_eq_true c]
    rfl
/-- neighbours -/
def nbs (n : Nat) (D : Nat → Nat → Nat) (x : Nat) : List Nat := (List.range n).filter (fun y => decide (D x y ≠ 0))
theorem f_linesAt_yes {σ : Sg} {n x : Nat} {U D : Nat → Nat → Nat} (h : Sx σ n U D) (hn : n ≤ 6) (hz : Sz n U D) (hx : x < n) : f_X3_linesAt σ (nI x) = some (nI (nbs n D x).length) := by
  unfold f_X3_linesAt
  have key := wl_run (body := fun a : Int32 × Int32 => f_X3_linesAt_B4 σ (nI x) a.1 a.2) (fun i => (nI ((List.range i).filter (fun y => decide (D x y ≠ 0))).length, nI i)) n (b := nI (nbs n D x).length) (fun i hi => ?_) ?_ FU (FU_big (by omega))
  · rw [show ((0 : Int32), (0 : Int32)) = (nI ((List.range 0).filter (fun y => decide (D x y ≠ 0))).length, nI 0) from rfl, key]
    rfl
  · dsimp only
    unfold f_X3_linesAt_B4
    rw [h.1, if_neg (nI_ge hi (by omega)), f_joined_yes h hn hz hx hi, Option.bind_some, List.range_succ, List.filter_append, List.length_append]
    by_cases c : D x i = 0
    · rw [decide_eq_false (by simp [c]), if_pos bIf, vl_e, nI_1, List.filter_cons, if_neg (by simp [c])]
      rfl
    · rw [decide_eq_true c, if_neg bIt, vl_e, vl_e, nI_1, nI_1, List.filter_cons, if_pos (decide_eq_true c)]
      rfl
  · dsimp only
    unfold f_X3_linesAt_B4
    rw [h.1, if_pos (nI_le (Nat.le_refl _) (by omega))]
    rfl
theorem f_nbFrom_yes {σ : Sg} {n x a : Nat} {U D : Nat → Nat → Nat} (h : Sx σ n U D) (hn : n ≤ 6) (hz : Sz n U D) (hx : x < n) (ha : a ≤ n) : ∃ y, f_X3_neighbourFrom σ (nI x) (nI a) = some (nI y) ∧ a ≤ y ∧ y ≤ n ∧ (y < n → D x y ≠ 0) ∧ ∀ z, a ≤ z → z < y → D x z = 0 := by
  unfold f_X3_neighbourFrom
  have key := wl_inv (body := fun q : Int32 => f_X3_neighbourFrom_B2 σ (nI x) q) (N := n - a) (I := fun i (q : Int32) => q = nI (a + i) ∧ ∀ z, a ≤ z → z < a + i → D x z = 0) (Post := fun b : Unit ⊕ Int32 => (b = .inl () ∧ ∀ z, a ≤ z → z < n → D x z = 0) ∨ ∃ y, b = .inr (nI y) ∧ a ≤ y ∧ y < n ∧ D x y ≠ 0 ∧ ∀ z, a ≤ z → z < y → D x z = 0) (fun i q hi hI => ?_) FU 0 (nI a) ⟨rfl, fun z h1 h2 => by omega⟩ (Nat.zero_le _) (FU_big (by omega))
  · obtain ⟨b, k1, k2⟩ := key
    rw [k1, Option.bind_some]
    rcases k2 with ⟨rfl, k3⟩ | ⟨y, rfl, k3, k4, k5, k6⟩
    · exact ⟨n, by rw [show Sum.elim (fun t6 => some (gI σ 16)) (fun v => some v) (Sum.inl () : Unit ⊕ Int32) = some (gI σ 16) from rfl, h.1], ha, Nat.le_refl _, fun q => by omega, k3⟩
    · exact ⟨y, rfl, k3, by omega, fun _ => k5, k6⟩
  · obtain ⟨rfl, hA⟩ := hI
    unfold f_X3_neighbourFrom_B2
    rw [h.1]
    by_cases he : i = n - a
    · rw [if_pos (nI_le (by omega) (by omega))]
      exact ⟨_, rfl, Or.inr ⟨_, rfl, Or.inl ⟨rfl, fun z h1 h2 => hA z h1 (by omega)⟩⟩⟩
    · have hlt : a + i < n := by omega
      rw [if_neg (nI_ge hlt (by omega)), f_joined_yes h hn hz hx hlt, Option.bind_some]
      by_cases c : D x (a + i) = 0
      · rw [decide_eq_false (by simp [c]), if_pos bIf, nI_1, vl_e]
        refine ⟨_, rfl, Or.inl ⟨_, rfl, by omega, rfl, fun z h1 h2 => ?_⟩⟩
        by_cases cz : z = a + i
        · rw [cz]
          exact c
        · exact hA z h1 (by omega)
      · rw [decide_eq_true c, if_neg bIt]
        exact ⟨_, rfl, Or.inr ⟨_, rfl, Or.inr ⟨a + i, rfl, by omega, hlt, c, hA⟩⟩⟩
