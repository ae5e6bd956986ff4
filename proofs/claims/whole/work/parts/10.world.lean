/-! THE WORLD behind both constructors: 56 cells, by their numbers. A state σ: ints of fields, int rows (and boolean ones), long rows, the walker's two references. -/
abbrev Sg : Type := (Nat → Int32) × (Nat → Nat → Int32) × (Nat → Nat → Int64) × (Nat → Nat)
def gI (σ : Sg) (i : Nat) : Int32 := σ.1 i
def gA (σ : Sg) (c : Nat) : Nat → Int32 := σ.2.1 c
def gJ (σ : Sg) (c : Nat) : Nat → Int64 := σ.2.2.1 c
def gR (σ : Sg) (i : Nat) : Nat := σ.2.2.2 i
def pI (σ : Sg) (i : Nat) (x : Int32) : Sg := (fun k => if k = i then x else σ.1 k, σ.2)
def pAr (σ : Sg) (c : Nat) (f : Nat → Int32) : Sg := (σ.1, (fun d => if d = c then f else σ.2.1 d), σ.2.2)
def pJr (σ : Sg) (c : Nat) (f : Nat → Int64) : Sg := (σ.1, σ.2.1, (fun d => if d = c then f else σ.2.2.1 d), σ.2.2.2)
def pR (σ : Sg) (i v : Nat) : Sg := (σ.1, σ.2.1, σ.2.2.1, fun k => if k = i then v else σ.2.2.2 k)
def pA (σ : Sg) (c j : Nat) (x : Int32) : Sg := pAr σ c (upd (gA σ c) j x)
def pJ (σ : Sg) (c j : Nat) (x : Int64) : Sg := pJr σ c (vp_updL (gJ σ c) j x)
/-- lengths of int rows, long rows, boolean rows by the cell's number; 0: none -/
def lenA (c : Nat) : Nat := if c = 2 then 80 else if 4 ≤ c ∧ c ≤ 22 then (if c % 4 = 0 then 36 else if c % 4 = 3 then 0 else 10) else if 25 ≤ c ∧ c ≤ 27 then 12 else if c = 35 then 5 else if c = 46 then 496 else if c = 48 then 80 else if c = 50 then 3 else if c = 51 then 6 else 0
def lenJ (c : Nat) : Nat := if c = 23 then 10 else if 30 ≤ c ∧ c ≤ 34 then 5 else if c = 37 ∨ c = 38 then 384 else if c = 40 ∨ c = 41 then 36 else if c = 42 ∨ c = 49 then 6 else if c = 52 ∨ c = 53 then 6 else if c = 54 ∨ c = 55 then 36 else 0
def lenZ (c : Nat) : Nat := if c = 44 ∨ c = 47 then 2 else 0
/-- the objects -/
def ob (ad : Nat → Nat) (cA : Nat → ClassId) (σ : Sg) (c : Nat) : va_E :=
  if c = 0 then .inr (6, [.ref (ad 1), .ref (ad 3), .ref (ad 7), .ref (ad 11), .ref (ad 23), .ref (ad 24), .ref (ad 28), .ref (ad 36), .ref (ad 39), .ref (ad 42), .int (gI σ 0), .ref (ad 43), .ref (ad 44)])
  else if c = 1 then .inr (4, [.ref (ad 2), .int (gI σ 1), .int (gI σ 2), .int (gI σ 3)])
  else if c = 24 then .inr (2, [.ref (ad 25), .ref (ad 26), .ref (ad 27), .int (gI σ 14)])
  else if c = 28 then .inr (0, [.ref (ad 29), .ref (ad 35), .int (gI σ 15)])
  else if c = 29 then .inl (cA 4, 5, .inr (.inr (.inr (.inr (fun i => if i < 5 then some (ad (30 + i)) else none)))))
  else if c = 36 then .inr (5, [.ref (ad (gR σ 0)), .ref (ad (gR σ 1))])
  else if c = 39 then .inr (3, [.ref (ad 40), .ref (ad 41), .int (gI σ 16)])
  else if c = 43 then .inl (cA 3, 2, .inr (.inr (.inr (.inr (fun i => some (ad (15 + 4 * i)))))))
  else if c = 45 then .inr (7, [.ref (ad 46), .int (gI σ 17), .int (gI σ 18), .ref (ad 47), .ref (ad 48), .int (gI σ 19), .ref (ad 49), .int (gI σ 20), .int (gI σ 21), .int (gI σ 22), .int (gI σ 23), .int (gI σ 24), .int (gI σ 25), .ref (ad 50), .ref (ad 51), .ref (ad 52), .ref (ad 53), .ref (ad 54), .ref (ad 55)])
  else .inr (1, [.int (gI σ ((c - 3) / 2 + 4)), .int (gI σ ((c - 3) / 2 + 5)), .ref (ad (c + 1)), .ref (ad (c + 2)), .ref (ad (c + 3))])
def EE (ad : Nat → Nat) (cA : Nat → ClassId) (σ : Sg) (c : Nat) : va_E :=
  if lenA c ≠ 0 then .inl (cA 0, lenA c, .inl (gA σ c)) else if lenJ c ≠ 0 then .inl (cA 1, lenJ c, .inr (.inl (gJ σ c))) else if lenZ c ≠ 0 then .inl (cA 2, lenZ c, .inl (gA σ c)) else ob ad cA σ c
def WL (ad : Nat → Nat) (cA : Nat → ClassId) (σ : Sg) : va_W := (List.range 56).map (fun c => (ad c, EE ad cA σ c))
/-- which cell holds an int field -/
def own (i : Nat) : Nat := if i = 0 then 0 else if i ≤ 3 then 1 else if i ≤ 13 then 3 + 4 * ((i - 4) / 2) else if i = 14 then 24 else if i = 15 then 28 else if i = 16 then 39 else 45
theorem WL_at {ad : Nat → Nat} {cA : Nat → ClassId} {σ : Sg} {c : Nat} (h : c < 56) : (WL ad cA σ)[c]? = some (ad c, EE ad cA σ c) := by
  unfold WL
  rw [List.getElem?_map, List.getElem?_range h]
  rfl
theorem WL_set {ad : Nat → Nat} {cA : Nat → ClassId} {σ σ' : Sg} {c : Nat} (h : ∀ d, d < 56 → d ≠ c → EE ad cA σ' d = EE ad cA σ d) {e : va_E} (he : EE ad cA σ' c = e) : (WL ad cA σ).set c (ad c, e) = WL ad cA σ' := by
  subst he
  apply List.ext_getElem?
  intro i
  rw [List.getElem?_set]
  unfold WL
  by_cases hi : c = i
  · subst hi
    by_cases hl : c < 56
    · simp [hl]
    · simp [hl]
  · rw [if_neg hi, List.getElem?_map, List.getElem?_map]
    by_cases hl : i < 56
    · rw [List.getElem?_range hl]
      simp [h i hl (fun q => hi q.symm)]
    · rw [List.getElem?_eq_none (by simp; omega)]
      rfl
theorem e_0 {ad : Nat → Nat} {cA : Nat → ClassId} {σ : Sg} : EE ad cA σ 0 = .inr (6, [.ref (ad 1), .ref (ad 3), .ref (ad 7), .ref (ad 11), .ref (ad 23), .ref (ad 24), .ref (ad 28), .ref (ad 36), .ref (ad 39), .ref (ad 42), .int (gI σ 0), .ref (ad 43), .ref (ad 44)]) := rfl
theorem e_1 {ad : Nat → Nat} {cA : Nat → ClassId} {σ : Sg} : EE ad cA σ 1 = .inr (4, [.ref (ad 2), .int (gI σ 1), .int (gI σ 2), .int (gI σ 3)]) := rfl
theorem e_24 {ad : Nat → Nat} {cA : Nat → ClassId} {σ : Sg} : EE ad cA σ 24 = .inr (2, [.ref (ad 25), .ref (ad 26), .ref (ad 27), .int (gI σ 14)]) := rfl
theorem e_28 {ad : Nat → Nat} {cA : Nat → ClassId} {σ : Sg} : EE ad cA σ 28 = .inr (0, [.ref (ad 29), .ref (ad 35), .int (gI σ 15)]) := rfl
theorem e_29 {ad : Nat → Nat} {cA : Nat → ClassId} {σ : Sg} : EE ad cA σ 29 = .inl (cA 4, 5, .inr (.inr (.inr (.inr (fun i => if i < 5 then some (ad (30 + i)) else none))))) := rfl
theorem e_36 {ad : Nat → Nat} {cA : Nat → ClassId} {σ : Sg} : EE ad cA σ 36 = .inr (5, [.ref (ad (gR σ 0)), .ref (ad (gR σ 1))]) := rfl
theorem e_39 {ad : Nat → Nat} {cA : Nat → ClassId} {σ : Sg} : EE ad cA σ 39 = .inr (3, [.ref (ad 40), .ref (ad 41), .int (gI σ 16)]) := rfl
theorem e_43 {ad : Nat → Nat} {cA : Nat → ClassId} {σ : Sg} : EE ad cA σ 43 = .inl (cA 3, 2, .inr (.inr (.inr (.inr (fun i => some (ad (15 + 4 * i))))))) := rfl
theorem e_45 {ad : Nat → Nat} {cA : Nat → ClassId} {σ : Sg} : EE ad cA σ 45 = .inr (7, [.ref (ad 46), .int (gI σ 17), .int (gI σ 18), .ref (ad 47), .ref (ad 48), .int (gI σ 19), .ref (ad 49), .int (gI σ 20), .int (gI σ 21), .int (gI σ 22), .int (gI σ 23), .int (gI σ 24), .int (gI σ 25), .ref (ad 50), .ref (ad 51), .ref (ad 52), .ref (ad 53), .ref (ad 54), .ref (ad 55)]) := rfl
theorem e_net {ad : Nat → Nat} {cA : Nat → ClassId} {σ : Sg} {k : Nat} (hk : k < 5) : EE ad cA σ (3 + 4 * k) = .inr (1, [.int (gI σ (4 + 2 * k)), .int (gI σ (5 + 2 * k)), .ref (ad (4 + 4 * k)), .ref (ad (5 + 4 * k)), .ref (ad (6 + 4 * k))]) := by
  match k, hk with
  | 0, _ => rfl
  | 1, _ => rfl
  | 2, _ => rfl
  | 3, _ => rfl
  | 4, _ => rfl
  | n + 5, h => exact absurd h (by omega)
theorem gI_self (σ : Sg) (i : Nat) (x : Int32) : gI (pI σ i x) i = x := by simp [gI, pI]
theorem gI_far {σ : Sg} {i j : Nat} {x : Int32} (h : j ≠ i) : gI (pI σ i x) j = gI σ j := by simp [gI, pI, h]
theorem gI_own {σ : Sg} {i j d : Nat} {x : Int32} (h : d ≠ own i) (hj : own j = d) : gI (pI σ i x) j = gI σ j := gI_far (fun e => h (by rw [← e]; exact hj.symm))
theorem ob_net {ad : Nat → Nat} {cA : Nat → ClassId} {σ : Sg} {d : Nat} (h0 : d ≠ 0) (h1 : d ≠ 1) (h24 : d ≠ 24) (h28 : d ≠ 28) (h29 : d ≠ 29) (h36 : d ≠ 36) (h39 : d ≠ 39) (h43 : d ≠ 43) (h45 : d ≠ 45) : ob ad cA σ d = .inr (1, [.int (gI σ ((d - 3) / 2 + 4)), .int (gI σ ((d - 3) / 2 + 5)), .ref (ad (d + 1)), .ref (ad (d + 2)), .ref (ad (d + 3))]) := by
  unfold ob
  rw [if_neg h0, if_neg h1, if_neg h24, if_neg h28, if_neg h29, if_neg h36, if_neg h39, if_neg h43, if_neg h45]
theorem len_net {d : Nat} (hA : ¬ lenA d ≠ 0) (hJ : ¬ lenJ d ≠ 0) (hZ : ¬ lenZ d ≠ 0) (hd : d < 56) (h0 : d ≠ 0) (h1 : d ≠ 1) (h24 : d ≠ 24) (h28 : d ≠ 28) (h29 : d ≠ 29) (h36 : d ≠ 36) (h39 : d ≠ 39) (h43 : d ≠ 43) (h45 : d ≠ 45) : d = 3 ∨ d = 7 ∨ d = 11 ∨ d = 15 ∨ d = 19 := by
  have key : ∀ d : Nat, d < 56 → (lenA d = 0 ∧ lenJ d = 0 ∧ lenZ d = 0) → (d = 0 ∨ d = 1 ∨ d = 24 ∨ d = 28 ∨ d = 29 ∨ d = 36 ∨ d = 39 ∨ d = 43 ∨ d = 45 ∨ d = 3 ∨ d = 7 ∨ d = 11 ∨ d = 15 ∨ d = 19) := by decide +kernel
  have := key d hd ⟨by omega, by omega, by omega⟩
  omega
/-- an int field of another cell is written: this cell stays -/
theorem eo {ad : Nat → Nat} {cA : Nat → ClassId} {σ : Sg} {i : Nat} {x : Int32} (d : Nat) (hd : d < 56) (h : d ≠ own i) : EE ad cA (pI σ i x) d = EE ad cA σ d := by
  by_cases h0 : d = 0
  · subst h0; rw [e_0, e_0, gI_own h rfl]
  by_cases h1 : d = 1
  · subst h1; rw [e_1, e_1, gI_own h rfl, gI_own h rfl, gI_own h rfl]
  by_cases h24 : d = 24
  · subst h24; rw [e_24, e_24, gI_own h rfl]
  by_cases h28 : d = 28
  · subst h28; rw [e_28, e_28, gI_own h rfl]
  by_cases h29 : d = 29
  · subst h29; rfl
  by_cases h36 : d = 36
  · subst h36; rfl
  by_cases h39 : d = 39
  · subst h39; rw [e_39, e_39, gI_own h rfl]
  by_cases h43 : d = 43
  · subst h43; rfl
  by_cases h45 : d = 45
  · subst h45
    rw [e_45, e_45]
    repeat rw [gI_own h rfl]
  unfold EE
  by_cases hA : lenA d ≠ 0
  · rw [if_pos hA, if_pos hA]; rfl
  by_cases hJ : lenJ d ≠ 0
  · rw [if_neg hA, if_neg hA, if_pos hJ, if_pos hJ]; rfl
  by_cases hZ : lenZ d ≠ 0
  · rw [if_neg hA, if_neg hA, if_neg hJ, if_neg hJ, if_pos hZ, if_pos hZ]; rfl
  rw [if_neg hA, if_neg hA, if_neg hJ, if_neg hJ, if_neg hZ, if_neg hZ, ob_net h0 h1 h24 h28 h29 h36 h39 h43 h45, ob_net h0 h1 h24 h28 h29 h36 h39 h43 h45]
  rcases len_net hA hJ hZ hd h0 h1 h24 h28 h29 h36 h39 h43 h45 with q | q | q | q | q <;> subst q <;> rw [gI_own h rfl, gI_own h rfl]
theorem eA {ad : Nat → Nat} {cA : Nat → ClassId} {σ : Sg} {c : Nat} {f : Nat → Int32} (d : Nat) (h : d ≠ c) : EE ad cA (pAr σ c f) d = EE ad cA σ d := by
  have e : gA (pAr σ c f) d = gA σ d := by simp [gA, pAr, h]
  unfold EE
  rw [e]
  rfl
theorem eJ {ad : Nat → Nat} {cA : Nat → ClassId} {σ : Sg} {c : Nat} {f : Nat → Int64} (d : Nat) (h : d ≠ c) : EE ad cA (pJr σ c f) d = EE ad cA σ d := by
  have e : gJ (pJr σ c f) d = gJ σ d := by simp [gJ, pJr, h]
  unfold EE
  rw [e]
  rfl
theorem eR {ad : Nat → Nat} {cA : Nat → ClassId} {σ : Sg} {i v : Nat} (d : Nat) (h : d ≠ 36) : EE ad cA (pR σ i v) d = EE ad cA σ d := by
  unfold EE ob
  rw [if_neg h, if_neg h]
  rfl
theorem eA_at {ad : Nat → Nat} {cA : Nat → ClassId} {σ : Sg} {c : Nat} (h : lenA c ≠ 0) : EE ad cA σ c = .inl (cA 0, lenA c, .inl (gA σ c)) := if_pos h
theorem lenA_lt {c : Nat} (h : lenA c ≠ 0) : c < 56 := by
  unfold lenA at h
  repeat' split at h
  all_goals omega
theorem lenJ_lt {c : Nat} (h : lenJ c ≠ 0) : c < 56 := by
  unfold lenJ at h
  repeat' split at h
  all_goals omega
theorem lenZ_lt {c : Nat} (h : lenZ c ≠ 0) : c < 56 := by
  unfold lenZ at h
  repeat' split at h
  all_goals omega
theorem lenJ_A {c : Nat} (h : lenJ c ≠ 0) : lenA c = 0 := by
  have key : ∀ d : Nat, d < 56 → lenJ d ≠ 0 → lenA d = 0 := by decide +kernel
  exact key c (lenJ_lt h) h
theorem lenZ_AJ {c : Nat} (h : lenZ c ≠ 0) : lenA c = 0 ∧ lenJ c = 0 := by
  have key : ∀ d : Nat, d < 56 → lenZ d ≠ 0 → lenA d = 0 ∧ lenJ d = 0 := by decide +kernel
  exact key c (lenZ_lt h) h
theorem eJ_at {ad : Nat → Nat} {cA : Nat → ClassId} {σ : Sg} {c : Nat} (h : lenJ c ≠ 0) : EE ad cA σ c = .inl (cA 1, lenJ c, .inr (.inl (gJ σ c))) := by
  unfold EE
  rw [if_neg (by rw [lenJ_A h]; exact fun q => q rfl), if_pos h]
theorem eZ_at {ad : Nat → Nat} {cA : Nat → ClassId} {σ : Sg} {c : Nat} (h : lenZ c ≠ 0) : EE ad cA σ c = .inl (cA 2, lenZ c, .inl (gA σ c)) := by
  unfold EE
  rw [if_neg (by rw [(lenZ_AJ h).1]; exact fun q => q rfl), if_neg (by rw [(lenZ_AJ h).2]; exact fun q => q rfl), if_pos h]
theorem lenA_w {k : Nat} (hk : k < 5) : lenA (4 + 4 * k) = 36 := by
  match k, hk with
  | 0, _ => rfl
  | 1, _ => rfl
  | 2, _ => rfl
  | 3, _ => rfl
  | 4, _ => rfl
  | n + 5, h => exact absurd h (by omega)
theorem lenA_l {k : Nat} (hk : k < 5) : lenA (5 + 4 * k) = 10 := by
  match k, hk with
  | 0, _ => rfl
  | 1, _ => rfl
  | 2, _ => rfl
  | 3, _ => rfl
  | 4, _ => rfl
  | n + 5, h => exact absurd h (by omega)
theorem lenA_h {k : Nat} (hk : k < 5) : lenA (6 + 4 * k) = 10 := by
  match k, hk with
  | 0, _ => rfl
  | 1, _ => rfl
  | 2, _ => rfl
  | 3, _ => rfl
  | 4, _ => rfl
  | n + 5, h => exact absurd h (by omega)
/-- an index that is within -/
def okI (i : Int32) (n : Nat) : Bool := decide (0 ≤ i.toInt ∧ i.toInt < (n : Int))
theorem okI_in {i : Int32} {n : Nat} (h : okI i n = true) : vp_in i n := vp_in_iff.mpr (of_decide_eq_true h)
theorem okI_pos {i : Int32} {n : Nat} (h : okI i n = true) : n ≠ 0 := by
  have := of_decide_eq_true h
  omega
def okC (sp dp n : Int32) (n0 n1 : Nat) : Bool := decide (0 ≤ sp.toInt ∧ 0 ≤ dp.toInt ∧ 0 ≤ n.toInt ∧ sp.toNatClampNeg + n.toNatClampNeg ≤ n0 ∧ dp.toNatClampNeg + n.toNatClampNeg ≤ n1)
def okZ (v : Int32) : Bool := v == 0 || v == 1
theorem okZ_nar {v : Int32} (h : okZ v = true) : narrow .boolean (.int v) = .int v := by
  unfold okZ at h
  rcases (Bool.or_eq_true _ _).mp h with q | q
  · rw [eq_of_beq q]; rfl
  · rw [eq_of_beq q]; rfl
/-- words of the functions that are printed beside the methods -/
def vl {α β : Type} (e : α) (f : α → β) : β := f e
def gd {α : Type} (b : Bool) (x : Option α) : Option α := if b = true then x else none
def wl {α β : Type} (body : α → Option (α ⊕ β)) : Nat → α → Option β
  | 0, _ => none
  | n + 1, a => (body a).bind fun r => match r with
    | .inl a' => wl body n a'
    | .inr b => some b
def FU : Nat := 5000
theorem vl_at {α β : Type} {e x : α} {f : α → β} {z : β} (ex : x = e) (h : vl e f = z) : f x = z := by subst ex; exact h
theorem gd_at {α : Type} {b : Bool} {x : Option α} {z : α} (h : gd b x = some z) : b = true ∧ x = some z := by
  unfold gd at h
  split at h
  · exact ⟨by assumption, h⟩
  · cases h
theorem it_t {α : Sort _} {c : Prop} [Decidable c] {a b z : α} (hc : c) (h : (if c then a else b) = z) : a = z := by rw [if_pos hc] at h; exact h
theorem it_f {α : Sort _} {c : Prop} [Decidable c] {a b z : α} (hc : ¬ c) (h : (if c then a else b) = z) : b = z := by rw [if_neg hc] at h; exact h
theorem bi_at {α β : Type} {o : Option α} {f : α → Option β} {z : β} (h : o.bind f = some z) : ∃ a, o = some a ∧ f a = some z := by
  cases o with
  | none => cases h
  | some a => exact ⟨a, rfl, h⟩
theorem wl_W {α β : Type} {body : α → Option (α ⊕ β)} {Hd : α → Prop} {Ex : β → Prop} (step : ∀ a r, body a = some r → (∀ a', r = .inl a' → Hd a') → (∀ b, r = .inr b → Ex b) → Hd a) : ∀ n a b, wl body n a = some b → Ex b → Hd a
  | 0, _, _, h, _ => by cases h
  | n + 1, a, b, h, hE => by
    unfold wl at h
    obtain ⟨r, h1, h2⟩ := bi_at h
    refine step a r h1 (fun a' e => ?_) (fun b' e => ?_)
    · subst e
      exact wl_W step n a' b h2 hE
    · subst e
      cases h2
      exact hE
