/-! Bareiss -/
def mn (M : Nat → Nat → Int) (k i j : Nat) : Int := dtI M (List.range k ++ [i]) (List.range k ++ [j])
def Dk (M : Nat → Nat → Int) (k : Nat) : Int := dtI M (List.range k) (List.range k)
theorem mn_D (M : Nat → Nat → Int) (k : Nat) : mn M k k k = Dk M (k + 1) := by
  unfold mn Dk
  rw [List.range_succ]
theorem mn_0 (M : Nat → Nat → Int) (i j : Nat) : mn M 0 i j = M i j := by
  show M i j * 1 - 0 = M i j
  omega
theorem pev_gv (M : Nat → Nat → Int) (r c : Nat → Nat) (rs cs : List Nat) (hc : ∀ x ∈ cs, x < 5) : pev (fun x => M (r (x / 5)) (c (x % 5))) (pd gv rs cs) = dtI M (rs.map r) (cs.map c) := by
  rw [pev_pd _ gv (fun i j => pev (fun x => M (r (x / 5)) (c (x % 5))) (gv i j)) (fun _ _ => rfl), dtI_map]
  refine dtI_congr rs cs (fun a _ b hb => ?_)
  have := hc b hb
  show 1 * (M (r ((a * 5 + b) / 5)) (c ((a * 5 + b) % 5)) * 1) + 0 = _
  rw [show (a * 5 + b) / 5 = a by omega, show (a * 5 + b) % 5 = b by omega]
  omega
theorem syl_I (M : Nat → Nat → Int) {k : Nat} (i j : Nat) (hk : k ≤ 3) : mn M k i j * mn M k k k - mn M k i k * mn M k k j = mn M (k + 1) i j * Dk M k := by
  have hck : sylP k = true := by
    have h : k = 0 ∨ k = 1 ∨ k = 2 ∨ k = 3 := by omega
    rcases h with rfl | rfl | rfl | rfl
    · exact syl0
    · exact syl1
    · exact syl2
    · exact syl3
  have h := congrArg (pev (fun x => M ((fun a => if a ≤ k then a else i) (x / 5)) ((fun a => if a ≤ k then a else j) (x % 5)))) (peq_eq hck)
  unfold mnP at h
  have hb : ∀ a, a ≤ k + 1 → ∀ x ∈ List.range k ++ [a], x < 5 := fun a ha x hx => by
    rcases List.mem_append.mp hx with q | q
    · have := List.mem_range.mp q
      omega
    · rw [List.mem_singleton.mp q]
      omega
  have hr : ∀ m, m ≤ k + 2 → ∀ x ∈ List.range m, x < 5 := fun m hm x hx => by
    have := List.mem_range.mp hx
    omega
  have pg := pev_gv M (fun a => if a ≤ k then a else i) (fun a => if a ≤ k then a else j)
  rw [pev_padd, pev_pneg, pev_pmul, pev_pmul, pev_pmul, pg _ _ (hb (k + 1) (by omega)), pg _ _ (hb k (by omega)), pg _ _ (hb k (by omega)), pg _ _ (hb (k + 1) (by omega)), pg _ _ (hr (k + 2) (by omega)), pg _ _ (hr k (by omega))] at h
  have m0 : ∀ t m, m ≤ k + 1 → (List.range m).map (fun a => if a ≤ k then a else t) = List.range m := fun t m hm => by
    have : (List.range m).map (fun a => if a ≤ k then a else t) = (List.range m).map id := List.map_congr_left (fun x hx => by
      have := List.mem_range.mp hx
      rw [if_pos (by omega)]
      rfl)
    rw [this, List.map_id]
  have m1 : ∀ t, (List.range k ++ [k + 1]).map (fun a => if a ≤ k then a else t) = List.range k ++ [t] := fun t => by
    rw [List.map_append, m0 t k (by omega), List.map_cons, if_neg (by omega), List.map_nil]
  have m2 : ∀ t, (List.range k ++ [k]).map (fun a => if a ≤ k then a else t) = List.range k ++ [k] := fun t => by
    rw [List.map_append, m0 t k (by omega)]
    simp
  have m3 : ∀ t, (List.range (k + 2)).map (fun a => if a ≤ k then a else t) = List.range (k + 1) ++ [t] := fun t => by
    rw [List.range_succ, List.map_append, m0 t (k + 1) (by omega), List.map_cons, if_neg (by omega), List.map_nil]
  rw [m1, m1, m2, m2, m3, m3, m0 i k (by omega), m0 j k (by omega)] at h
  unfold mn Dk
  omega
/-- bounds -/
def bd : Nat → Nat
  | 0 => 1
  | k + 1 => (k + 1) * (45 * bd k)
theorem lap_bd {f : Nat → List Nat → Int} {B : Nat} : ∀ (cs pre : List Nat), (∀ c rest, (∀ x ∈ c :: rest, x ∈ pre ++ cs) → rest.length + 1 = (pre ++ cs).length → (f c rest).natAbs ≤ B) → (lap f pre cs).natAbs ≤ cs.length * B
  | [], _, _ => by simp [lap]
  | c :: cs, pre, h => by
    show (f c (pre ++ cs) - lap f (pre ++ [c]) cs).natAbs ≤ (cs.length + 1) * B
    have h1 := h c (pre ++ cs) (fun x hx => by simp at hx ⊢; rcases hx with q | q | q <;> simp [q]) (by simp; omega)
    have h2 := lap_bd (f := f) (B := B) cs (pre ++ [c]) (fun d rest hd hl => h d rest (fun x hx => by have := hd x hx; simpa using this) (by rw [hl]; simp))
    rw [Nat.add_mul, Nat.one_mul]
    omega
theorem dt_bd {M : Nat → Nat → Int} : ∀ (rs cs : List Nat), rs.length = cs.length → (∀ r ∈ rs, ∀ c ∈ cs, (M r c).natAbs ≤ 45) → (dtI M rs cs).natAbs ≤ bd rs.length
  | [], _, _, _ => by show (1 : Int).natAbs ≤ 1; decide
  | r :: rs, cs, hl, h => by
    have key := lap_bd (f := fun c rest => M r c * dtI M rs rest) (B := 45 * bd rs.length) cs [] (fun c rest hc hr => by
      rw [Int.natAbs_mul]
      exact Nat.mul_le_mul (h r List.mem_cons_self c (by simpa using hc c List.mem_cons_self)) (dt_bd rs rest (by simp at hr hl; omega) (fun a ha b hb => h a (List.mem_cons_of_mem _ ha) b (by simpa using hc b (List.mem_cons_of_mem _ hb)))))
    rw [← hl] at key
    exact key
theorem mn_bd {M : Nat → Nat → Int} {s : Nat} (hM : ∀ i j, i < s → j < s → (M i j).natAbs ≤ 45) {k i j : Nat} (hk : k ≤ s) (hi : i < s) (hj : j < s) : (mn M k i j).natAbs ≤ bd (k + 1) := by
  have hb : ∀ t, t < s → ∀ x ∈ List.range k ++ [t], x < s := fun t ht x hx => by
    rcases List.mem_append.mp hx with q | q
    · have := List.mem_range.mp q
      omega
    · rw [List.mem_singleton.mp q]
      exact ht
  have := dt_bd (M := M) (List.range k ++ [i]) (List.range k ++ [j]) (by simp) (fun r hr c hc => hM r c (hb i hi r hr) (hb j hj c hc))
  simpa [mn] using this
theorem D_bd {M : Nat → Nat → Int} {s : Nat} (hM : ∀ i j, i < s → j < s → (M i j).natAbs ≤ 45) {k : Nat} (hk : k ≤ s) : (Dk M k).natAbs ≤ bd k := by
  have hb : ∀ x ∈ List.range k, x < s := fun x hx => by
    have := List.mem_range.mp hx
    omega
  have := dt_bd (M := M) (List.range k) (List.range k) rfl (fun r hr c hc => hM r c (hb r hr) (hb c hc))
  simpa [Dk] using this
theorem bd_le {k : Nat} (h : k ≤ 4) : bd k ≤ 98415000 := by
  have : k = 0 ∨ k = 1 ∨ k = 2 ∨ k = 3 ∨ k = 4 := by omega
  rcases this with rfl | rfl | rfl | rfl | rfl <;> decide
theorem ofI_ne {a : Int} (h : a.natAbs < 2 ^ 62) (h0 : a ≠ 0) : Int64.ofInt a ≠ 0 := fun q => by
  have h1 := congrArg Int64.toInt q
  rw [Int64.toInt_ofInt_of_le (by omega) (by omega)] at h1
  exact h0 h1
/-- one entry more -/
theorem bar_step {M : Nat → Nat → Int} {s k i j : Nat} (hM : ∀ i j, i < s → j < s → (M i j).natAbs ≤ 45) (hk : k + 1 < s) (hs : s ≤ 5) (hi : i < s) (hj : j < s) (hD : Dk M k ≠ 0) : (Int64.ofInt (mn M k i j) * Int64.ofInt (mn M k k k) - Int64.ofInt (mn M k i k) * Int64.ofInt (mn M k k j)) / Int64.ofInt (Dk M k) = Int64.ofInt (mn M (k + 1) i j) := by
  have b1 := mn_bd hM (k := k) (i := i) (j := j) (by omega) hi hj
  have b2 := mn_bd hM (k := k) (i := k) (j := k) (by omega) (by omega) (by omega)
  have b3 := mn_bd hM (k := k) (i := i) (j := k) (by omega) hi (by omega)
  have b4 := mn_bd hM (k := k) (i := k) (j := j) (by omega) (by omega) hj
  have b5 := D_bd hM (k := k) (by omega)
  have c1 := bd_le (k := k + 1) (by omega)
  have c2 := bd_le (k := k) (by omega)
  have p1 : (mn M k i j * mn M k k k).natAbs ≤ 98415000 * 98415000 := by
    rw [Int.natAbs_mul]
    exact Nat.mul_le_mul (by omega) (by omega)
  have p2 : (mn M k i k * mn M k k j).natAbs ≤ 98415000 * 98415000 := by
    rw [Int.natAbs_mul]
    exact Nat.mul_le_mul (by omega) (by omega)
  have m1 : Int64.minValue.toInt = -2 ^ 63 := by decide
  have m2 : Int64.maxValue.toInt = 2 ^ 63 - 1 := by decide
  rw [← Int64.ofInt_mul, ← Int64.ofInt_mul, ← Int64.ofInt_sub, ← Int64.ofInt_tdiv (by rw [m1]; omega) (by rw [m2]; omega) (by rw [m1]; omega) (by rw [m2]; omega), syl_I M i j (by omega), Int.mul_tdiv_cancel _ hD]
