/-! nodes named anew -/
def fQ (n v u x : Nat) : Nat := lat (v :: u :: (ord n v u).dropLast) x
def gQ (n v u z : Nat) : Nat := (v :: u :: (ord n v u).dropLast).findIdx (Nat.beq z)
theorem fQ_1 : ∀ n, n < 7 → ∀ v, v < n → ∀ u, u < n → u ≠ v → (ord n 0 1).map (fQ n v u) = ord n v u := by decide +kernel
theorem fQ_2 : ∀ n, n < 7 → ∀ v, v < n → ∀ u, u < n → u ≠ v → ((List.range n).map (fQ n v u)).isPerm (List.range n) = true := by decide +kernel
theorem fQ_3' : ∀ n, n < 7 → ∀ v, v < n → ∀ u, u < n → u ≠ v → (List.range n).all (fun x => decide (fQ n v u x < n ∧ gQ n v u (fQ n v u x) = x)) = true := by decide +kernel
theorem fQ_3 (n : Nat) (h7 : n < 7) (v : Nat) (hv : v < n) (u : Nat) (hu : u < n) (huv : u ≠ v) (x : Nat) (hx : x < n) : fQ n v u x < n ∧ gQ n v u (fQ n v u x) = x := of_decide_eq_true (List.all_eq_true.mp (fQ_3' n h7 v hv u hu huv) x (List.mem_range.mpr hx))
theorem fQ_4' : ∀ n, n < 7 → ∀ v, v < n → ∀ u, u < n → u ≠ v → (List.range n).all (fun x => decide (gQ n v u x < n ∧ fQ n v u (gQ n v u x) = x)) = true := by decide +kernel
theorem fQ_4 (n : Nat) (h7 : n < 7) (v : Nat) (hv : v < n) (u : Nat) (hu : u < n) (huv : u ≠ v) (x : Nat) (hx : x < n) : gQ n v u x < n ∧ fQ n v u (gQ n v u x) = x := of_decide_eq_true (List.all_eq_true.mp (fQ_4' n h7 v hv u hu huv) x (List.mem_range.mpr hx))
theorem fQ_all (n : Nat) (h7 : n < 7) (h2 : 2 ≤ n) (v : Nat) (hv : v < n) (u : Nat) (hu : u < n) (huv : u ≠ v) : (ord n 0 1).map (fQ n v u) = ord n v u ∧ ((List.range n).map (fQ n v u)).isPerm (List.range n) = true ∧ (∀ x, x < n → fQ n v u x < n ∧ gQ n v u (fQ n v u x) = x) ∧ ∀ x, x < n → gQ n v u x < n ∧ fQ n v u (gQ n v u x) = x := ⟨fQ_1 n h7 v hv u hu huv, fQ_2 n h7 v hv u hu huv, fQ_3 n h7 v hv u hu huv, fQ_4 n h7 v hv u hu huv⟩
theorem CC_new {n v u : Nat} {w : Nat → Nat → Nat} (h2 : 2 ≤ n) (hn : n ≤ 6) (hv : v < n) (hu : u < n) (huv : u ≠ v) (hs : ∀ u v, w u v = w v u) (h : CC n (Ln n w)) : CC n (Ln n (fun a b => w (fQ n v u a) (fQ n v u b))) := by
  obtain ⟨-, -, q1, q2⟩ := fQ_all n (by omega) h2 v hv u hu huv
  intro c hc x y hx hy
  have key := h (fun z => c (gQ n v u z)) (fun e he => ?_) (fQ n v u x) (fQ n v u y) (q1 x hx).1 (q1 y hy).1
  · rw [(q1 x hx).2, (q1 y hy).2] at key
    exact key
  · have hm := mem_Ln.mp he
    obtain ⟨a1, a2⟩ := q2 e.1 (by omega)
    obtain ⟨b1, b2⟩ := q2 e.2.1 (by omega)
    have hne : gQ n v u e.1 ≠ gQ n v u e.2.1 := fun q => by
      have := congrArg (fQ n v u) q
      rw [a2, b2] at this
      omega
    by_cases c1 : gQ n v u e.1 < gQ n v u e.2.1
    · exact hc (gQ n v u e.1, gQ n v u e.2.1, w e.1 e.2.1) (mem_Ln.mpr ⟨c1, b1, by dsimp only; rw [a2, b2], by dsimp only; omega⟩)
    · exact (hc (gQ n v u e.2.1, gQ n v u e.1, w e.1 e.2.1) (mem_Ln.mpr ⟨by dsimp only; omega, a1, by dsimp only; rw [a2, b2, hs], by dsimp only; omega⟩)).symm
theorem pv_new {n v u : Nat} {w : Nat → Nat → Nat} (h2 : 2 ≤ n) (hn : n ≤ 6) (hv : v < n) (hu : u < n) (huv : u ≠ v) (d : Nat → Nat) (k : Nat) : pv n w d v u k = pv n (fun a b => w (fQ n v u a) (fQ n v u b)) (fun a => d (fQ n v u a)) 0 1 k := by
  obtain ⟨q0, qp, q1, q2⟩ := fQ_all n (by omega) h2 v hv u hu huv
  unfold pv
  rw [← q0, ← List.map_take, dtI_map]
  refine dtI_congr _ _ (fun a ha b hb => ?_)
  have ha' := ord_b hn (by omega) a (List.mem_of_mem_take ha)
  have hb' := ord_b hn (by omega) b (List.mem_of_mem_take hb)
  have n1 : ¬ fQ n v u b = 9 := by
    have := (q1 b hb').1
    omega
  have n2 : ¬ b = 9 := by omega
  unfold lpl
  rw [if_neg n1, if_neg n2]
  by_cases c : a = b
  · rw [if_pos (show fQ n v u a = fQ n v u b by rw [c]), if_pos c]
    congr 1
    unfold dg
    have hp := ((List.isPerm_iff.mp qp).map (w (fQ n v u a))).sum_nat
    rw [List.map_map] at hp
    exact hp.symm
  · rw [if_neg (fun q => c (by rw [← (q1 a ha').2, ← (q1 b hb').2, q])), if_neg c]
theorem pv_pos2 {n v u : Nat} {w : Nat → Nat → Nat} (h2 : 2 ≤ n) (hn : n ≤ 6) (hs : ∀ u v, w u v = w v u) (h0 : ∀ u, w u u = 0) (hv : v < n) (hu : u < n) (huv : u ≠ v) (d : Nat → Nat) (h : CC n (Ln n w)) {k : Nat} (hk : k + 1 < n) : 0 < pv n w d v u (k + 1) := by
  rw [pv_new h2 hn hv hu huv]
  refine pv_pos h2 hn (fun a b => hs _ _) (fun a => h0 _) _ (tree_pos (by omega) (fun e he => ?_) (fun e he => (mem_Ln.mp he).2.2.2) (CC_new h2 hn hv hu huv hs h)) hk
  have := mem_Ln.mp he
  omega
