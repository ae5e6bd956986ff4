/-! walks: within a set, by the sets met -/
def sb (m A : Nat) : Bool := Nat.beq (m &&& A) m
theorem sb_iff (m A : Nat) : sb m A = true ↔ ∀ i, m.testBit i = true → A.testBit i = true := by
  unfold sb
  constructor
  · intro h i hi
    have e1 := Nat.eq_of_beq_eq_true h
    rw [← e1, Nat.testBit_and] at hi
    simp at hi
    exact hi.2
  · intro h
    have e1 : m &&& A = m := by
      apply Nat.eq_of_testBit_eq
      intro i
      rw [Nat.testBit_and]
      cases q : m.testBit i
      · rfl
      · rw [h i q]
        rfl
    rw [e1, Nat.beq_refl]
theorem sb_or (m x A : Nat) : sb (m ||| 2 ^ x) A = (sb m A && A.testBit x) := by
  rw [Bool.eq_iff_iff, Bool.and_eq_true, sb_iff, sb_iff]
  constructor
  · intro h
    refine ⟨fun i hi => h i (by rw [Nat.testBit_or, hi]; rfl), h x (by rw [Nat.testBit_or, Nat.testBit_two_pow_self]; simp)⟩
  · rintro ⟨h1, h2⟩ i hi
    rw [Nat.testBit_or, Nat.testBit_two_pow] at hi
    by_cases c : m.testBit i = true
    · exact h1 i c
    · have : x = i := by simpa [c] using hi
      rw [← this]
      exact h2
/-- sums over lines at a node are sums over nodes -/
theorem nb_sum {n : Nat} {w : Nat → Nat → Nat} (hw : wok n w) {x : Nat} (hx : x < n) (φ : Nat → Nat → Int) (h0 : ∀ y, φ y 0 = 0) : lz (fun e => if e.1 = x then φ e.2.1 e.2.2 else if e.2.1 = x then φ e.1 e.2.2 else 0) (Ln n w) = zs (fun y => φ y (w x y)) n := by
  have key : ∀ n, n ≤ 6 → ∀ u, u < n → (prs n).filterMap (fun q => if q.1 = u then some q.2 else if q.2 = u then some q.1 else none) = (List.range n).filter (fun x => decide (x ≠ u)) := by
    decide +kernel
  have hk := key n hw.2.1 x hx
  have e1 : ∀ L : List (Nat × Nat), lz (fun e => if e.1 = x then φ e.2.1 e.2.2 else if e.2.1 = x then φ e.1 e.2.2 else 0) (L.filterMap (lf w)) = ((L.filterMap (fun q => if q.1 = x then some q.2 else if q.2 = x then some q.1 else none)).map (fun y => φ y (w x y))).sum := by
    intro L
    induction L with
    | nil => rfl
    | cons q L ih =>
      have hd : lz (fun e => if e.1 = x then φ e.2.1 e.2.2 else if e.2.1 = x then φ e.1 e.2.2 else 0) ((q :: L).filterMap (lf w)) = (if q.1 = x then φ q.2 (w q.1 q.2) else if q.2 = x then φ q.1 (w q.1 q.2) else 0) + lz (fun e => if e.1 = x then φ e.2.1 e.2.2 else if e.2.1 = x then φ e.1 e.2.2 else 0) (L.filterMap (lf w)) := by
        by_cases c : w q.1 q.2 = 0
        · have e0 : lf w q = none := by unfold lf; rw [if_pos c]
          rw [List.filterMap_cons_none e0, c, h0, h0]
          have : (if q.1 = x then (0 : Int) else if q.2 = x then 0 else 0) = 0 := by
            split
            · rfl
            · split <;> rfl
          rw [this, Int.zero_add]
        · have e0 : lf w q = some (q.1, q.2, w q.1 q.2) := by unfold lf; rw [if_neg c]
          rw [List.filterMap_cons_some e0]
          rfl
      rw [hd, ih]
      by_cases c1 : q.1 = x
      · rw [if_pos c1, List.filterMap_cons_some (b := q.2) (by rw [if_pos c1]), List.map_cons, List.sum_cons, c1]
      · by_cases c2 : q.2 = x
        · rw [if_neg c1, if_pos c2, List.filterMap_cons_some (b := q.1) (by rw [if_neg c1, if_pos c2]), List.map_cons, List.sum_cons, c2, hw.2.2.1]
        · rw [if_neg c1, if_neg c2, List.filterMap_cons_none (by rw [if_neg c1, if_neg c2]), Int.zero_add]
  unfold Ln
  rw [e1, hk]
  have e2 : ∀ L : List Nat, ((L.filter (fun y => decide (y ≠ x))).map (fun y => φ y (w x y))).sum = (L.map (fun y => φ y (w x y))).sum := by
    intro L
    induction L with
    | nil => rfl
    | cons y L ih =>
      by_cases c : y = x
      · rw [List.filter_cons, if_neg (by simp [c]), ih, List.map_cons, List.sum_cons, c, hw.2.2.2.1, h0, Int.zero_add]
      · rw [List.filter_cons, if_pos (by simp [c]), List.map_cons, List.map_cons, List.sum_cons, List.sum_cons, ih]
  have e3 : ∀ m, ((List.range m).map (fun y => φ y (w x y))).sum = zs (fun y => φ y (w x y)) m := by
    intro m
    induction m with
    | zero => rfl
    | succ m ih =>
      rw [List.range_succ, List.map_append, List.sum_append, ih]
      show zs _ m + (φ m (w x m) + 0) = zs _ m + φ m (w x m)
      rw [Int.add_zero]
  rw [e2, e3]
theorem lz_congr {f g : Nat × Nat × Nat → Int} : ∀ L, (∀ e ∈ L, f e = g e) → lz f L = lz g L
  | [], _ => rfl
  | e :: L, h => by
    show f e + lz f L = g e + lz g L
    rw [h e List.mem_cons_self, lz_congr L (fun x hx => h x (List.mem_cons_of_mem _ hx))]
theorem Gt_out {L : List (Nat × Nat × Nat)} {A f : Nat} (hf : A.testBit f = true) : ∀ t y, A.testBit y = false → Gt L A f t y = 0
  | 0, y, h => by
    show (if y = f then (1 : Int) else 0) = 0
    rw [if_neg (fun q => by rw [q, hf] at h; cases h)]
  | t + 1, y, h => by
    show lz (lc A (Gt L A f t) y) L = 0
    have : lz (lc A (Gt L A f t) y) L = lz (fun _ => 0) L := lz_congr L (fun e _ => by
      unfold lc
      split
      · rename_i c
        rw [if_neg (fun q => by rw [q, h] at c; simp at c), if_neg (fun q => by rw [q, h] at c; simp at c)]
        rfl
      · rfl)
    rw [this]
    have z : ∀ L : List (Nat × Nat × Nat), lz (fun _ => 0) L = 0 := by
      intro L
      induction L with
      | nil => rfl
      | cons a L ih =>
        show 0 + lz (fun _ => 0) L = 0
        rw [ih]
        rfl
    exact z L
theorem Gt_step {n : Nat} {w : Nat → Nat → Nat} (hw : wok n w) {A f x t : Nat} (hx : x < n) : Gt (Ln n w) A f (t + 1) x = zs (fun y => if (A.testBit x && A.testBit y) = true then Gt (Ln n w) A f t y * (w x y : Int) else 0) n := by
  have h := nb_sum hw hx (fun y a => if (A.testBit x && A.testBit y) = true then Gt (Ln n w) A f t y * (a : Int) else 0) (fun y => by
    split
    · exact Int.mul_zero _
    · rfl)
  rw [← h]
  show lz (lc A (Gt (Ln n w) A f t) x) (Ln n w) = _
  refine lz_congr _ (fun e he => ?_)
  have hm := mem_Ln.mp he
  unfold lc
  by_cases c1 : e.1 = x
  · have c2 : ¬ e.2.1 = x := by omega
    rw [if_pos c1, if_neg c2, if_pos c1, c1, Int.add_zero]
  · rw [if_neg c1, if_neg c1, Int.zero_add]
    by_cases c2 : e.2.1 = x
    · rw [if_pos c2, if_pos c2, c2, Bool.and_comm]
    · rw [if_neg c2, if_neg c2]
      split <;> rfl
theorem Gt_H {n : Nat} {w : Nat → Nat → Nat} (hw : wok n w) {A f : Nat} (hA : A < 2 ^ n) (hf : f < n) (hfA : A.testBit f = true) : ∀ t x, x < n → Gt (Ln n w) A f t x = zs (fun m => if sb m A = true then Ht n w f t x m else 0) (2 ^ n)
  | 0, x, hx => by
    have hp : 2 ^ f < 2 ^ n := Nat.pow_lt_pow_right (by omega) hf
    show (if x = f then (1 : Int) else 0) = _
    by_cases c : x = f
    · rw [if_pos c]
      have e1 : zs (fun m => if sb m A = true then Ht n w f 0 x m else 0) (2 ^ n) = zs (fun m => if sb m A = true then (if 2 ^ f = m then (1 : Int) else 0) else 0) (2 ^ n) := zs_congr _ (fun m _ => by
        show (if sb m A = true then (if x = f ∧ m = 2 ^ f then (1 : Int) else 0) else 0) = _
        by_cases q : 2 ^ f = m
        · rw [if_pos q, if_pos (show x = f ∧ m = 2 ^ f from ⟨c, q.symm⟩)]
        · rw [if_neg q, if_neg (show ¬ (x = f ∧ m = 2 ^ f) from fun r => q r.2.symm)])
      rw [e1, zs_point hp (fun m => sb m A), if_pos]
      have := sb_or 0 f A
      rw [Nat.zero_or] at this
      rw [this, hfA, Bool.and_true, sb_iff]
      intro i hi
      rw [Nat.zero_testBit] at hi
      cases hi
    · rw [if_neg c]
      have e1 : zs (fun m => if sb m A = true then Ht n w f 0 x m else 0) (2 ^ n) = zs (fun _ => 0) (2 ^ n) := zs_congr _ (fun m _ => by
        show (if sb m A = true then (if x = f ∧ m = 2 ^ f then (1 : Int) else 0) else 0) = 0
        rw [if_neg (show ¬ (x = f ∧ m = 2 ^ f) from fun r => c r.1)]
        split <;> rfl)
      rw [e1, zs_zero]
  | t + 1, x, hx => by
    rw [Gt_step hw hx]
    have hn := hw.2.1
    -- the class's side
    have e1 : zs (fun m' => if sb m' A = true then Ht n w f (t + 1) x m' else 0) (2 ^ n) = zs (fun y => zs (fun m => if sb (m ||| 2 ^ x) A = true then Ht n w f t y m * (w y x : Int) else 0) (2 ^ n)) n := by
      have s1 : zs (fun m' => if sb m' A = true then Ht n w f (t + 1) x m' else 0) (2 ^ n) = zs (fun m' => zs (fun y => zs (fun m => if sb m' A = true then (if m ||| 2 ^ x = m' then Ht n w f t y m * (w y x : Int) else 0) else 0) (2 ^ n)) n) (2 ^ n) := zs_congr _ (fun m' _ => by
        show (if sb m' A = true then zs (fun u => zs (cn1 w (Ht n w f t) u x m') (2 ^ n)) n else 0) = _
        cases q : sb m' A
        · rw [if_neg (by decide)]
          have : zs (fun y => zs (fun m => if false = true then (if m ||| 2 ^ x = m' then Ht n w f t y m * (w y x : Int) else 0) else 0) (2 ^ n)) n = zs (fun _ => 0) n := zs_congr _ (fun y _ => by
            have : zs (fun m => if false = true then (if m ||| 2 ^ x = m' then Ht n w f t y m * (w y x : Int) else 0) else 0) (2 ^ n) = zs (fun _ => 0) (2 ^ n) := zs_congr _ (fun m _ => by rw [if_neg (by decide)])
            rw [this, zs_zero])
          rw [this, zs_zero]
        · rw [if_pos rfl]
          refine zs_congr _ (fun y _ => zs_congr _ (fun m _ => ?_))
          rw [if_pos rfl]
          rfl)
      rw [s1, zs_comm]
      refine zs_congr _ (fun y _ => ?_)
      rw [zs_comm]
      refine zs_congr _ (fun m hm => ?_)
      exact zs_point (or_lt64 hn hm hx) (fun m' => sb m' A) (Ht n w f t y m * (w y x : Int))
    rw [e1]
    refine zs_congr _ (fun y hy => ?_)
    have ih := Gt_H hw hA hf hfA t y hy
    cases qx : A.testBit x
    · rw [Bool.false_and, if_neg (by decide)]
      have : zs (fun m => if sb (m ||| 2 ^ x) A = true then Ht n w f t y m * (w y x : Int) else 0) (2 ^ n) = zs (fun _ => 0) (2 ^ n) := zs_congr _ (fun m _ => by rw [sb_or, qx, Bool.and_false, if_neg (by decide)])
      rw [this, zs_zero]
    · have e2 : zs (fun m => if sb (m ||| 2 ^ x) A = true then Ht n w f t y m * (w y x : Int) else 0) (2 ^ n) = (w y x : Int) * zs (fun m => if sb m A = true then Ht n w f t y m else 0) (2 ^ n) := by
        rw [← zs_mul]
        refine zs_congr _ (fun m _ => ?_)
        rw [sb_or, qx, Bool.and_true]
        split
        · exact Int.mul_comm _ _
        · exact (Int.mul_zero _).symm
      rw [e2, ← ih, Bool.true_and]
      cases qy : A.testBit y
      · rw [if_neg (by decide), Gt_out hfA t y qy, Int.mul_zero]
      · rw [if_pos rfl, Int.mul_comm, hw.2.2.1]
/-- the start is met always -/
theorem Ht_f {n : Nat} {w : Nat → Nat → Nat} {f : Nat} : ∀ t x m, m.testBit f = false → Ht n w f t x m = 0
  | 0, x, m, h => by
    show (if x = f ∧ m = 2 ^ f then (1 : Int) else 0) = 0
    rw [if_neg (fun q => by rw [q.2, Nat.testBit_two_pow_self] at h; cases h)]
  | t + 1, x, m, h => by
    show zs (fun u => zs (cn1 w (Ht n w f t) u x m) (2 ^ n)) n = 0
    have : zs (fun u => zs (cn1 w (Ht n w f t) u x m) (2 ^ n)) n = zs (fun _ => 0) n := zs_congr _ (fun u _ => by
      have : zs (cn1 w (Ht n w f t) u x m) (2 ^ n) = zs (fun _ => 0) (2 ^ n) := zs_congr _ (fun m0 _ => by
        unfold cn1
        split
        · rename_i c
          have : m0.testBit f = false := by
            cases q : m0.testBit f
            · rfl
            · rw [← c, Nat.testBit_or, q] at h
              cases h
          rw [Ht_f t u m0 this, Int.zero_mul]
        · rfl)
      rw [this, zs_zero])
    rw [this, zs_zero]
def sg (n A : Nat) : Int := if (n - cnt A) % 2 = 0 then 1 else -1
theorem mob' : ∀ n, n < 7 → (List.range (2 ^ n)).all (fun m => decide (zs (fun A => if sb m A = true then sg n A else 0) (2 ^ n) = if m = 2 ^ n - 1 then 1 else 0)) = true := by decide +kernel
theorem mob {n m : Nat} (hn : n ≤ 6) (hm : m < 2 ^ n) : zs (fun A => if sb m A = true then sg n A else 0) (2 ^ n) = if m = 2 ^ n - 1 then 1 else 0 := of_decide_eq_true (List.all_eq_true.mp (mob' n (by omega)) m (List.mem_range.mpr hm))
theorem incl {n : Nat} {w : Nat → Nat → Nat} (hw : wok n w) {f t : Nat} (hf : f < n) : zs (fun A => if A.testBit f = true then sg n A * zs (Gt (Ln n w) A f t) n else 0) (2 ^ n) = cs n f 2 (Ht n w f t) := by
  have hn := hw.2.1
  have e1 : zs (fun A => if A.testBit f = true then sg n A * zs (Gt (Ln n w) A f t) n else 0) (2 ^ n) = zs (fun A => zs (fun x => zs (fun m => if sb m A = true then sg n A * Ht n w f t x m else 0) (2 ^ n)) n) (2 ^ n) := zs_congr _ (fun A hA => by
    cases q : A.testBit f
    · rw [if_neg (by decide)]
      have : zs (fun x => zs (fun m => if sb m A = true then sg n A * Ht n w f t x m else 0) (2 ^ n)) n = zs (fun _ => 0) n := zs_congr _ (fun x _ => by
        have : zs (fun m => if sb m A = true then sg n A * Ht n w f t x m else 0) (2 ^ n) = zs (fun _ => 0) (2 ^ n) := zs_congr _ (fun m _ => by
          cases r : m.testBit f
          · rw [Ht_f t x m r, Int.mul_zero]
            split <;> rfl
          · rw [if_neg (fun s => by have := (sb_iff m A).mp s f r; rw [q] at this; cases this)])
        rw [this, zs_zero])
      rw [this, zs_zero]
    · rw [if_pos rfl, ← zs_mul]
      refine zs_congr _ (fun x hx => ?_)
      rw [Gt_H hw hA hf q t x hx, ← zs_mul]
      refine zs_congr _ (fun m _ => ?_)
      split
      · rfl
      · exact Int.mul_zero _)
  rw [e1, zs_comm]
  unfold cs
  refine zs_congr _ (fun x _ => ?_)
  rw [zs_comm]
  refine zs_congr _ (fun m hm => ?_)
  have e2 : zs (fun A => if sb m A = true then sg n A * Ht n w f t x m else 0) (2 ^ n) = Ht n w f t x m * zs (fun A => if sb m A = true then sg n A else 0) (2 ^ n) := by
    rw [← zs_mul]
    refine zs_congr _ (fun A _ => ?_)
    split
    · exact Int.mul_comm _ _
    · exact (Int.mul_zero _).symm
  rw [e2, mob hn hm]
  unfold kd
  by_cases c : m = 2 ^ n - 1
  · rw [if_pos c, if_pos (by simp [c]), Int.mul_one]
  · rw [if_neg c, if_neg (by simp [c]), Int.mul_zero]
