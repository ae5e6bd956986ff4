/-! smaller nets: the bound at the start -/
def K0 (n : Nat) (w : Nat → Nat → Nat) : Nat → Nat → Nat := fun a b => if wn n w a b = 0 then 0 else 1
theorem len_fm {w v : Nat → Nat → Nat} : ∀ L : List (Nat × Nat), (∀ q ∈ L, (w q.1 q.2 = 0 ↔ v q.1 q.2 = 0)) → (L.filterMap (lf w)).length = (L.filterMap (lf v)).length
  | [], _ => rfl
  | q :: L, h => by
    have h1 := h q List.mem_cons_self
    have ih := len_fm L (fun r hr => h r (List.mem_cons_of_mem _ hr))
    by_cases c : w q.1 q.2 = 0
    · have e0 : lf w q = none := by unfold lf; rw [if_pos c]
      have e1 : lf v q = none := by unfold lf; rw [if_pos (h1.mp c)]
      rw [List.filterMap_cons_none e0, List.filterMap_cons_none e1, ih]
    · have e0 : lf w q = some (q.1, q.2, w q.1 q.2) := by unfold lf; rw [if_neg c]
      have e1 : lf v q = some (q.1, q.2, v q.1 q.2) := by unfold lf; rw [if_neg (fun r => c (h1.mpr r))]
      rw [List.filterMap_cons_some e0, List.filterMap_cons_some e1, List.length_cons, List.length_cons, ih]
theorem sum_pick {n x c : Nat} (h : x < n) : ((List.range n).map (fun i => if x = i then c else 0)).sum = c := by
  have := sum_upd (f := fun _ => 0) (g := fun i => if x = i then c else 0) (x0 := x) (fun i hi => by rw [if_neg (fun q => hi q.symm)]) n h
  rw [if_pos rfl] at this
  have z : ∀ m, ((List.range m).map (fun _ => 0)).sum = 0 := by
    intro m
    induction m with
    | zero => rfl
    | succ m ih => rw [sum_range_succ (fun _ => 0), ih]
  rw [z n] at this
  omega
theorem hand {n : Nat} : ∀ L : List (Nat × Nat × Nat), (∀ e ∈ L, e.1 < n ∧ e.2.1 < n ∧ e.1 ≠ e.2.1) → ((List.range n).map (dgL L)).sum = 2 * whl L
  | [], _ => by
    have z : ∀ m, ((List.range m).map (dgL [])).sum = 0 := by
      intro m
      induction m with
      | zero => rfl
      | succ m ih =>
        rw [sum_range_succ, ih]
        rfl
    rw [z]
    rfl
  | e :: L, h => by
    obtain ⟨h1, h2, h3⟩ := h e List.mem_cons_self
    have ih := hand L (fun f hf => h f (List.mem_cons_of_mem _ hf))
    have e1 : (List.range n).map (dgL (e :: L)) = (List.range n).map (fun i => ((if e.1 = i then e.2.2 else 0) + (if e.2.1 = i then e.2.2 else 0)) + dgL L i) := List.map_congr_left (fun i _ => by
      show din i e + dgL L i = _
      unfold din
      by_cases c1 : e.1 = i
      · rw [if_pos (Or.inl c1), if_pos c1, if_neg (fun q => h3 (c1.trans q.symm)), Nat.add_zero]
      · by_cases c2 : e.2.1 = i
        · rw [if_pos (Or.inr c2), if_neg c1, if_pos c2, Nat.zero_add]
        · rw [if_neg (by rintro (q | q); exact c1 q; exact c2 q), if_neg c1, if_neg c2])
    rw [e1, sum_add, sum_add, sum_pick h1, sum_pick h2, ih]
    have : whl (e :: L) = e.2.2 + whl L := by
      unfold whl
      rw [List.map_cons, List.sum_cons]
    omega
theorem whl_one : ∀ {L : List (Nat × Nat × Nat)}, (∀ e ∈ L, e.2.2 ≤ 1) → whl L ≤ L.length
  | [], _ => Nat.le_refl _
  | e :: L, h => by
    have h1 := h e List.mem_cons_self
    have ih := whl_one (L := L) (fun f hf => h f (List.mem_cons_of_mem _ hf))
    have : whl (e :: L) = e.2.2 + whl L := by
      unfold whl
      rw [List.map_cons, List.sum_cons]
    rw [List.length_cons]
    omega
theorem Iv_0 {n : Nat} {w : Nat → Nat → Nat} (hw : wok n w) : Iv n (fun _ _ => 1) (wn n w) (K0 n w) := by
  have sw' : ∀ a b, wn n w a b = wn n w b a := fun a b => by
    unfold wn
    by_cases c : a < n ∧ b < n
    · rw [if_pos c, if_pos ⟨c.2, c.1⟩, hw.2.2.1]
    · rw [if_neg c, if_neg (fun q => c ⟨q.2, q.1⟩)]
  have sk' : ∀ a b, K0 n w a b = K0 n w b a := fun a b => by
    unfold K0
    rw [sw' a b]
  have z0 : ∀ a, wn n w a a = 0 := fun a => by
    unfold wn
    split
    · exact hw.2.2.2.1 a
    · rfl
  have k1 : ∀ a b, K0 n w a b ≤ 1 := fun a b => by
    unfold K0
    split <;> omega
  have hlen : (Ln n (K0 n w)).length = (Ln n w).length := len_fm (prs n) (fun q hq => by
    obtain ⟨i, j⟩ := q
    have := mem_prs.mp hq
    dsimp only
    have ew : wn n w i j = w i j := by unfold wn; rw [if_pos ⟨by omega, by omega⟩]
    unfold K0
    rw [ew]
    constructor
    · intro r
      refine Classical.byContradiction fun s => ?_
      rw [if_neg s] at r
      omega
    · intro r
      rw [if_pos r])
  have hk : wok n (K0 n w) := ⟨hw.1, hw.2.1, sk', fun a => by unfold K0; rw [if_pos (z0 a)], fun a b => by have := k1 a b; omega, by rw [hlen]; exact hw.2.2.2.2.2⟩
  refine ⟨sw', fun _ _ => rfl, sk', z0, fun a b hd => ⟨Nat.zero_lt_one, ?_⟩, ?_⟩
  · have e1 : K0 n w a b = 1 := by unfold K0; rw [if_neg hd]
    have e2 : wn n w a b ≤ 9 := by
      unfold wn
      split
      · exact hw.2.2.2.2.1 a b
      · omega
    rw [e1]
    show 1 + wn n w a b ≤ 10 ^ 1
    omega
  · have e1 : dd n (K0 n w) = ((List.range n).map (dgL (Ln n (K0 n w)))).sum := by
      unfold dd
      congr 1
      exact List.map_congr_left (fun i hi => dg_dgL hk (List.mem_range.mp hi))
    rw [e1, hand _ (fun e he => by have := mem_Ln.mp he; omega)]
    have := whl_one (L := Ln n (K0 n w)) (fun e he => by rw [(mem_Ln.mp he).2.2.1]; exact k1 _ _)
    have := hw.2.2.2.2.2
    omega
/-- who goes next -/
def cd (n : Nat) (D : Nat → Nat → Nat) (u v x : Nat) : Bool := decide (x ≠ u) && decide (x ≠ v) && (decide ((nbs n D x).length = 1) || decide ((nbs n D x).length = 2))
