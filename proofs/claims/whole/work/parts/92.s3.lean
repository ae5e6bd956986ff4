/-! nodes named anew -/
def fQ (n v u x : Nat) : Nat := lat (v :: u :: (ord n v u).dropLast) x
def gQ (n v u z : Nat) : Nat := (v :: u :: (ord n v u).dropLast).findIdx (Nat.beq z)
theorem fQ_all : ∀ n, n < 7 → 2 ≤ n → ∀ v, v < n → ∀ u, u < n → u ≠ v → (ord n 0 1).map (fQ n v u) = ord n v u ∧ ((List.range n).map (fQ n v u)).Perm (List.range n) ∧ (∀ x, x < n → fQ n v u x < n ∧ gQ n v u (fQ n v u x) = x) ∧ ∀ x, x < n → gQ n v u x < n ∧ fQ n v u (gQ n v u x) = x := by decide +kernel
theorem CC_new {n v u : Nat} {w : Nat → Nat → Nat} (h2 : 2 ≤ n) (hn : n ≤ 6) (hv : v < n) (hu : u < n) (huv : u ≠ v) (hs : ∀ u v, w u v = w v u) (h : CC n (Ln n w)) : CC n (Ln n (fun a b => w (fQ n v u a) (fQ n v u b))) := by
  obtain ⟨-, -, q1, q2⟩ := fQ_all n (by omega) h2 v hv u hu huv
  intro c hc x y hx hy
  have key := h (fun z => c (gQ n v u z)) (fun e he => ?_) (fQ n v u x) (fQ n v u y) (q1 x hx).1 (q1 y hy).1
  · dsimp only at key
    rw [(q1 x hx).2, (q1 y hy).2] at key
    exact key
  · have hm := mem_Ln.mp he
    obtain ⟨a1, a2⟩ := q2 e.1 (by omega)
    obtain ⟨b1, b2⟩ := q2 e.2.1 (by omega)
    dsimp only
    have hne : gQ n v u e.1 ≠ gQ n v u e.2.1 := fun q => by
      have := congrArg (fQ n v u) q
      rw [a2, b2] at this
      omega
    by_cases c1 : gQ n v u e.1 < gQ n v u e.2.1
    · exact hc (gQ n v u e.1, gQ n v u e.2.1, w e.1 e.2.1) (mem_Ln.mpr ⟨c1, b1, by dsimp only; rw [a2, b2], by dsimp only; omega⟩)
    · exact (hc (gQ n v u e.2.1, gQ n v u e.1, w e.1 e.2.1) (mem_Ln.mpr ⟨by dsimp only; omega, a1, by dsimp only; rw [a2, b2, hs], by dsimp only; omega⟩)).symm
theorem pv_new {n v u : Nat} {w : Nat → Nat → Nat} (h2 : 2 ≤ n) (hn : n ≤ 6) (hv : v < n) (hu : u < n) (huv : u ≠ v) (d : Nat → Nat) (k : Nat) : pv n w d v u k = pv n (fun a b => w (fQ n v u a) (fQ n v u b)) (fun a => d (fQ n v u a)) 0 1 k := by
  obtain ⟨q0, qp, q1, q2⟩ := fQ_all n (by omega) h2 v hv u hu huv
  unfold pv
  rw [← q0, ← List.map_take, dtI_map]
  refine dtI_congr _ _ (fun a ha b hb => ?_)
  have ha' := ord_b hn (by omega) a (List.mem_of_mem_take ha)
  have hb' := ord_b hn (by omega) b (List.mem_of_mem_take hb)
  have := (q1 b hb').1
  unfold lpl
  rw [if_neg (by omega), if_neg (by omega)]
  by_cases c : a = b
  · rw [if_pos (by rw [c]), if_pos c]
    congr 1
    unfold dg
    have hp := (qp.map (w (fQ n v u a))).sum_nat
    rw [List.map_map] at hp
    exact hp.symm
  · rw [if_neg (fun q => c (by rw [← (q1 a ha').2, ← (q1 b hb').2, q])), if_neg c]
theorem pv_pos2 {n v u : Nat} {w : Nat → Nat → Nat} (h2 : 2 ≤ n) (hn : n ≤ 6) (hs : ∀ u v, w u v = w v u) (h0 : ∀ u, w u u = 0) (hv : v < n) (hu : u < n) (huv : u ≠ v) (d : Nat → Nat) (h : CC n (Ln n w)) {k : Nat} (hk : k + 1 < n) : 0 < pv n w d v u (k + 1) := by
  rw [pv_new h2 hn hv hu huv]
  refine pv_pos h2 hn (fun a b => hs _ _) (fun a => h0 _) _ (tree_pos (by omega) (fun e he => ?_) (fun e he => (mem_Ln.mp he).2.2.2) (CC_new h2 hn hv hu huv hs h)) hk
  have := mem_Ln.mp he
  omega
