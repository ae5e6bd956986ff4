/-! numbers of 64 bits; the common divisor -/
theorem lN_t {n : Nat} (h : n < 2 ^ 63) : (lN n).toInt = (n : Int) := by
  rw [lN_of]
  exact Int64.toInt_ofInt_of_le (by omega) (by omega)
theorem lN_e {a b : Nat} (ha : a < 2 ^ 63) (hb : b < 2 ^ 63) : lN a = lN b ↔ a = b := by
  constructor
  · intro h
    have := congrArg Int64.toInt h
    rw [lN_t ha, lN_t hb] at this
    omega
  · intro h
    rw [h]
theorem lN_l {a b : Nat} (ha : a < 2 ^ 63) (hb : b < 2 ^ 63) : lN a ≤ lN b ↔ a ≤ b := by
  rw [Int64.le_iff_toInt_le, lN_t ha, lN_t hb]
  omega
theorem lN_lt' {a b : Nat} (ha : a < 2 ^ 63) (hb : b < 2 ^ 63) : lN a < lN b ↔ a < b := by
  rw [Int64.lt_iff_toInt_lt, lN_t ha, lN_t hb]
  omega
theorem lN_0 {a : Nat} (ha : a < 2 ^ 63) : lN a = 0 ↔ a = 0 := by
  rw [jl_0, lN_e ha (by omega)]
theorem lN_div {a b : Nat} (ha : a < 2 ^ 63) (hb : b < 2 ^ 63) : lN a / lN b = lN (a / b) := by
  have m1 : Int64.minValue.toInt = -2 ^ 63 := by decide
  have m2 : Int64.maxValue.toInt = 2 ^ 63 - 1 := by decide
  rw [lN_of, lN_of, lN_of, ← Int64.ofInt_tdiv (by rw [m1]; omega) (by rw [m2]; omega) (by rw [m1]; omega) (by rw [m2]; omega)]
  congr 1
theorem lN_rem {a b : Nat} (ha : a < 2 ^ 63) (hb : b < 2 ^ 63) : lN a - lN a / lN b * lN b = lN (a % b) := by
  rw [lN_div ha hb, lN_mul, lN_sub (Nat.div_mul_le_self a b)]
  congr 1
  have := Nat.div_add_mod a b
  rw [Nat.mul_comm] at this
  omega
def fib2 : Nat → Nat × Nat
  | 0 => (0, 1)
  | k + 1 => ((fib2 k).2, (fib2 k).1 + (fib2 k).2)
/-- the rest is not 0 after so many rounds -/
def nz : Nat → Nat → Nat → Prop
  | 0, _, q => q ≠ 0
  | k + 1, p, q => q ≠ 0 ∧ nz k q (p % q)
theorem nz_fib : ∀ k p q, q < p → nz k p q → (fib2 k).2 ≤ q ∧ (fib2 k).1 + (fib2 k).2 ≤ p
  | 0, p, q, h, hz => by
    have : q ≠ 0 := hz
    exact ⟨show 1 ≤ q by omega, show 0 + 1 ≤ p by omega⟩
  | k + 1, p, q, h, hz => by
    obtain ⟨h1, h2⟩ := hz
    have h3 := nz_fib k q (p % q) (Nat.mod_lt _ (by omega)) h2
    have h4 : q + p % q ≤ p := by
      have e1 := Nat.div_add_mod p q
      have e2 : 1 ≤ p / q := Nat.div_pos (by omega) (by omega)
      have e3 : q * 1 ≤ q * (p / q) := Nat.mul_le_mul_left q e2
      omega
    refine ⟨h3.2, ?_⟩
    show (fib2 k).2 + ((fib2 k).1 + (fib2 k).2) ≤ p
    omega
theorem nz_no {p q : Nat} (hq : q < 2 ^ 63) (h : nz 99 p q) : False := by
  obtain ⟨h1, h2⟩ := h
  have h3 := nz_fib 98 q (p % q) (Nat.mod_lt _ (by omega)) h2
  have : (fib2 98).1 + (fib2 98).2 ≥ 2 ^ 63 := by decide +kernel
  omega
theorem nz_cut : ∀ i {k p q p' q' : Nat}, (∀ k, nz k p' q' → nz (k + i) p q) → k + i = 99 → nz k p' q' → nz 99 p q := fun i k p q p' q' h e hz => by
  have := h k hz
  rw [e] at this
  exact this
theorem f_cd_loop {a b : Nat} (ha : a < 2 ^ 63) (hb : b < 2 ^ 63) : wl (fun x : Int64 × Int64 × Int32 => f_X6_commonDivisor_B15 x.1 x.2.1 x.2.2) FU (lN a, lN b, (0 : Int32)) = some (lN (Nat.gcd a b)) := by
  have key := wl_inv (body := fun x : Int64 × Int64 × Int32 => f_X6_commonDivisor_B15 x.1 x.2.1 x.2.2) (N := 99) (I := fun i (x : Int64 × Int64 × Int32) => ∃ p q, x = (lN p, lN q, nI i) ∧ p < 2 ^ 63 ∧ q < 2 ^ 63 ∧ Nat.gcd p q = Nat.gcd a b ∧ ∀ k, nz k p q → nz (k + i) a b) (Post := fun z => z = lN (Nat.gcd a b)) (fun i x hi hI => ?_) FU 0 (lN a, lN b, (0 : Int32)) ⟨a, b, rfl, ha, hb, rfl, fun k h => h⟩ (Nat.zero_le _) (FU_big (by omega))
  · obtain ⟨z, k1, rfl⟩ := key
    exact k1
  · obtain ⟨p, q, rfl, h1, h2, h3, h4⟩ := hI
    dsimp only
    unfold f_X6_commonDivisor_B15
    rw [il_100, if_neg (nI_ge (by omega) (by omega))]
    by_cases c : q = 0
    · subst c
      rw [if_pos (show lN 0 = 0 from rfl)]
      exact ⟨_, rfl, Or.inr ⟨_, rfl, by rw [← h3, Nat.gcd_zero_right]⟩⟩
    · have hne : ¬ lN q = 0 := fun r => c ((lN_0 h2).mp r)
      have hlt : p % q < q := Nat.mod_lt _ (by omega)
      rw [if_neg hne, gd_h (decide_eq_true hne), lN_rem h1 h2, vl_e, vl_e, nI_1]
      refine ⟨_, rfl, Or.inl ⟨_, rfl, ?_, q, p % q, rfl, h2, by omega, ?_, fun k hk => ?_⟩⟩
      · refine Classical.byContradiction fun r => ?_
        have : i = 99 := by omega
        subst this
        exact nz_no hb (by have := h4 0 c; simpa using this)
      · rw [← h3, Nat.gcd_comm p q, Nat.gcd_comm q (p % q), Nat.gcd_rec q p]
      · have := h4 (k + 1) ⟨c, hk⟩
        rw [show k + (i + 1) = k + 1 + i by omega]
        exact this
theorem f_cd_yes {a b : Nat} (ha : a < 2 ^ 63) (hb : b < 2 ^ 63) (h0 : 0 < Nat.gcd a b) : f_X6_commonDivisor (lN a) (lN b) = some (lN (Nat.gcd a b)) := by
  have ab : ∀ x, x < 2 ^ 63 → (if (0 : Int64) < lN x then lN x else -(lN x)) = lN x := fun x hx => by
    by_cases c : x = 0
    · subst c
      rfl
    · rw [jl_0, if_pos ((lN_lt' (by omega) hx).mpr (by omega))]
  have hg : Nat.gcd a b < 2 ^ 63 := by
    rcases Nat.eq_zero_or_pos a with q | q
    · rw [q, Nat.gcd_zero_left]
      exact hb
    · have := Nat.gcd_le_left b q
      omega
  unfold f_X6_commonDivisor
  rw [vl_e, vl_e, ab a ha, ab b hb, f_cd_loop ha hb, Option.bind_some, if_neg]
  rw [jl_0, lN_l hg (by omega)]
  omega
theorem f_common_yes {a b : Nat} (ha : a < 2 ^ 63) (hb : b < 2 ^ 63) : f_X7_common (lN a) (lN b) = some (lN (Nat.gcd a b)) := by
  unfold f_X7_common
  have key := wl_inv (body := fun x : Int64 × Int64 => f_X7_common_B6 x.1 x.2) (N := 99) (I := fun i (x : Int64 × Int64) => ∃ p q, x = (lN p, lN q) ∧ p < 2 ^ 63 ∧ q < 2 ^ 63 ∧ Nat.gcd p q = Nat.gcd a b ∧ ∀ k, nz k p q → nz (k + i) a b) (Post := fun z => z = lN (Nat.gcd a b)) (fun i x hi hI => ?_) FU 0 (lN a, lN b) ⟨a, b, rfl, ha, hb, rfl, fun k h => h⟩ (Nat.zero_le _) (FU_big (by omega))
  · obtain ⟨z, k1, rfl⟩ := key
    rw [k1]
    rfl
  · obtain ⟨p, q, rfl, h1, h2, h3, h4⟩ := hI
    dsimp only
    unfold f_X7_common_B6
    by_cases c : q = 0
    · subst c
      rw [if_pos (show lN 0 = 0 from rfl)]
      exact ⟨_, rfl, Or.inr ⟨_, rfl, by rw [← h3, Nat.gcd_zero_right]⟩⟩
    · have hne : ¬ lN q = 0 := fun r => c ((lN_0 h2).mp r)
      have hlt : p % q < q := Nat.mod_lt _ (by omega)
      rw [if_neg hne, gd_h (decide_eq_true hne), lN_rem h1 h2, vl_e]
      refine ⟨_, rfl, Or.inl ⟨_, rfl, ?_, q, p % q, rfl, h2, by omega, ?_, fun k hk => ?_⟩⟩
      · refine Classical.byContradiction fun r => ?_
        have : i = 99 := by omega
        subst this
        exact nz_no hb (by have := h4 0 c; simpa using this)
      · rw [← h3, Nat.gcd_comm p q, Nat.gcd_comm q (p % q), Nat.gcd_rec q p]
      · have := h4 (k + 1) ⟨c, hk⟩
        rw [show k + (i + 1) = k + 1 + i by omega]
        exact this
theorem gcd_lt {a b : Nat} (ha : a < 2 ^ 63) (hb : b < 2 ^ 63) : Nat.gcd a b < 2 ^ 63 := by
  rcases Nat.eq_zero_or_pos a with q | q
  · rw [q, Nat.gcd_zero_left]
    exact hb
  · have := Nat.gcd_le_left b q
    omega
theorem f_part_both {a b : Nat} (ha : a < 2 ^ 63) (hb : b < 2 ^ 63) (h0 : 0 < b) (x : Int32) : ∃ r, f_X6_partOf (lN a) (lN b) x = some r ∧ f_X7_least (lN a) (lN b) x = some r := by
  have hg : 0 < Nat.gcd a b := Nat.gcd_pos_of_pos_right a h0
  have hne : ¬ lN (Nat.gcd a b) = 0 := fun q => by
    have := (lN_0 (gcd_lt ha hb)).mp q
    omega
  by_cases c : x = 0
  · refine ⟨lN a / lN (Nat.gcd a b), ?_, ?_⟩
    · unfold f_X6_partOf
      rw [f_cd_yes ha hb hg, Option.bind_some, if_pos c, gd_h (decide_eq_true hne)]
    · unfold f_X7_least f_X7_least_J10
      rw [if_pos c, f_common_yes ha hb, Option.bind_some, gd_h (decide_eq_true hne)]
  · refine ⟨lN b / lN (Nat.gcd a b), ?_, ?_⟩
    · unfold f_X6_partOf
      rw [f_cd_yes ha hb hg, Option.bind_some, if_neg c, gd_h (decide_eq_true hne)]
    · unfold f_X7_least f_X7_least_J10
      rw [if_neg c, f_common_yes ha hb, Option.bind_some, gd_h (decide_eq_true hne)]
/-! bounds of the sums -/
theorem lpl_bd {n : Nat} {w : Nat → Nat → Nat} (hw : wok n w) {d : Nat → Nat} (hd : ∀ x, x < n → d x ≤ 45) {a b : Nat} (ha : a < n) : (lpl n w d a b).natAbs ≤ 45 := by
  unfold lpl
  split
  · have := hd a ha
    omega
  · split
    · have := dg_le hw ha
      omega
    · have := hw.2.2.2.2.1 a b
      omega
theorem bd5 {k : Nat} (h : k ≤ 5) : bd k ≤ 22143375000 := by
  have : k = 0 ∨ k = 1 ∨ k = 2 ∨ k = 3 ∨ k = 4 ∨ k = 5 := by omega
  rcases this with rfl | rfl | rfl | rfl | rfl | rfl <;> decide
theorem T_bd {n : Nat} {w : Nat → Nat → Nat} (hw : wok n w) : ss (tT n) (Ln n w) ≤ 22143375000 := by
  have hn := hw.2.1
  have h2 := hw.1
  have hlen := ord_len (n := n) (v := 0) (u := 1) h2 hn (by omega) (by omega) (by omega)
  have h := mt_tree h2 hn hw.2.2.1 hw.2.2.2.1 (fun _ => 0)
  have hb := dt_bd (M := lpl n w (fun _ => 0)) (ord n 0 1) (ord n 0 1) rfl (fun r hr c _ => lpl_bd hw (fun x _ => Nat.zero_le _) (ord_b hn (by omega) r hr))
  have := bd5 (k := (ord n 0 1).length) (by omega)
  rw [h] at hb
  omega
theorem S_bd {n u v : Nat} {w : Nat → Nat → Nat} (hw : wok n w) (hu : u < n) (hv : v < n) {d : Nat → Nat} (hd : ∀ x, x < n → d x ≤ 45) : ss (sT n d u v) (Ln n w) ≤ 22143375000 := by
  have hn := hw.2.1
  have h2 := hw.1
  by_cases huv : u = v
  · subst huv
    rw [sT_same]
    omega
  · have hlen := ord_len h2 hn hv hu huv
    have h := mt_b h2 hn hw.2.2.1 hw.2.2.2.1 d hu hv huv
    have hb := dt_bd (M := lpl n w d) (ord n v u) ((ord n v u).dropLast ++ [9]) (by simp; omega) (fun r hr c _ => lpl_bd hw hd (ord_b hn hu r hr))
    have := bd5 (k := (ord n v u).length) (by omega)
    rw [h] at hb
    omega
/-- degrees are the same -/
theorem dg_dgL {n : Nat} {w : Nat → Nat → Nat} (hw : wok n w) {u : Nat} (hu : u < n) : dg n w u = dgL (Ln n w) u := by
  have key : ∀ n, n ≤ 6 → ∀ u, u < n → (prs n).filterMap (fun q => if q.1 = u then some q.2 else if q.2 = u then some q.1 else none) = (List.range n).filter (fun x => decide (x ≠ u)) := by
    decide +kernel
  have hk := key n hw.2.1 u hu
  have e1 : ∀ L : List (Nat × Nat), (∀ q ∈ L, q.1 < q.2) → dgL (L.filterMap (lf w)) u = ((L.filterMap (fun q => if q.1 = u then some q.2 else if q.2 = u then some q.1 else none)).map (w u)).sum := by
    intro L
    induction L with
    | nil => intro _; rfl
    | cons q L ih =>
      intro h
      have h1 := h q List.mem_cons_self
      have ih' := ih (fun r hr => h r (List.mem_cons_of_mem _ hr))
      have hd : dgL ((q :: L).filterMap (lf w)) u = din u (q.1, q.2, w q.1 q.2) + dgL (L.filterMap (lf w)) u := by
        by_cases c : w q.1 q.2 = 0
        · have e0 : lf w q = none := by unfold lf; rw [if_pos c]
          rw [List.filterMap_cons_none e0]
          unfold din
          dsimp only
          rw [c]
          split <;> omega
        · have e0 : lf w q = some (q.1, q.2, w q.1 q.2) := by unfold lf; rw [if_neg c]
          rw [List.filterMap_cons_some e0]
          rfl
      rw [hd, ih']
      unfold din
      dsimp only
      by_cases c1 : q.1 = u
      · rw [if_pos (Or.inl c1), List.filterMap_cons_some (b := q.2) (by rw [if_pos c1]), List.map_cons, List.sum_cons, c1]
      · by_cases c2 : q.2 = u
        · rw [if_pos (Or.inr c2), List.filterMap_cons_some (b := q.1) (by rw [if_neg c1, if_pos c2]), List.map_cons, List.sum_cons, c2, hw.2.2.1]
        · rw [if_neg (by rintro (r | r); exact c1 r; exact c2 r), List.filterMap_cons_none (by rw [if_neg c1, if_neg c2]), Nat.zero_add]
  unfold Ln
  rw [e1 _ (fun q hq => (mem_prs.mp hq).1), hk]
  unfold dg
  have e2 : ∀ L : List Nat, ((L.filter (fun x => decide (x ≠ u))).map (w u)).sum = (L.map (w u)).sum := by
    intro L
    induction L with
    | nil => rfl
    | cons x L ih =>
      by_cases c : x = u
      · rw [List.filter_cons, if_neg (by simp [c]), ih, List.map_cons, List.sum_cons, c, hw.2.2.2.1, Nat.zero_add]
      · rw [List.filter_cons, if_pos (by simp [c]), List.map_cons, List.map_cons, List.sum_cons, List.sum_cons, ih]
  rw [e2]
theorem sT_dg {n u v : Nat} {w : Nat → Nat → Nat} (hw : wok n w) (L : List (Nat × Nat × Nat)) : ss (sT n (dg n w) u v) L = ss (sT n (dgL (Ln n w)) u v) L := ss_congr (fun S => by
  unfold sT
  have : dsum n (dg n w) (fo S).2 u = dsum n (dgL (Ln n w)) (fo S).2 u := by
    unfold dsum
    congr 1
    refine List.map_congr_left (fun x hx => ?_)
    rw [dg_dgL hw (List.mem_range.mp hx)]
  rw [this]) L
/-- given at one node alone -/
theorem sT_un {n u a v : Nat} (ha : a < n) (L : List (Nat × Nat × Nat)) : ss (sT n (un a) u v) L = ss (aT n (some u) a v) L := ss_congr (fun S => by
  unfold sT aT
  have hd : dsum n (un a) (fo S).2 u = if (fo S).2 a = (fo S).2 u then 1 else 0 := by
    unfold dsum un
    by_cases c : (fo S).2 a = (fo S).2 u
    · rw [if_pos c]
      refine Eq.trans ?_ (sum_one ha)
      congr 1
      refine List.map_congr_left (fun x _ => ?_)
      by_cases cx : x = a
      · rw [if_pos cx, cx, if_pos c]
      · rw [if_neg cx]
        split <;> rfl
    · rw [if_neg c]
      have : ∀ m, ((List.range m).map (fun x => if (fo S).2 x = (fo S).2 u then (if x = a then 1 else 0) else 0)).sum = 0 := by
        intro m
        induction m with
        | zero => rfl
        | succ m ih =>
          rw [sum_range_succ, ih]
          by_cases cx : m = a
          · rw [cx, if_neg c]
          · rw [if_neg cx]
            split <;> rfl
      exact this n
  rw [hd]
  by_cases c0 : fok n 2 S = true
  · by_cases c1 : (fo S).2 a = (fo S).2 u
    · rw [if_pos c1, Nat.one_mul]
      by_cases c2 : (fo S).2 u = (fo S).2 v
      · rw [if_neg (fun q => q.2 c2), if_neg (fun q => q.2.1 (c1.trans c2))]
      · rw [if_pos ⟨c0, c2⟩, if_pos ⟨c0, fun q => c2 (c1.symm.trans q), fun x hx => by cases hx; exact c1.symm⟩]
    · rw [if_neg c1, Nat.zero_mul, if_neg (show ¬ (fok n 2 S = true ∧ (fo S).2 a ≠ (fo S).2 v ∧ ∀ x, some u = some x → (fo S).2 x = (fo S).2 a) from fun q => c1 (q.2.2 u rfl).symm)]
      split <;> rfl
  · rw [if_neg (fun q => c0 q.1), if_neg (fun q => c0 q.1)]) L
theorem aT_none {n a b : Nat} (L : List (Nat × Nat × Nat)) : ss (aT n none a b) L = ss (aT n (some a) a b) L := ss_congr (fun S => by
  unfold aT
  by_cases c : fok n 2 S = true ∧ (fo S).2 a ≠ (fo S).2 b
  · rw [if_pos ⟨c.1, c.2, fun x hx => by cases hx⟩, if_pos ⟨c.1, c.2, fun x hx => by cases hx; rfl⟩]
  · rw [if_neg (fun q => c ⟨q.1, q.2.1⟩), if_neg (fun q => c ⟨q.1, q.2.1⟩)]) L
