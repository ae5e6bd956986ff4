/-! the sums over forests are these polynomials -/
def AL (w : Nat → Nat → Nat) (L : List (Nat × Nat)) : List (Nat × Nat × Nat) := L.map (fun q => (q.1, q.2, w q.1 q.2))
theorem ss_zero : ∀ (L : List (Nat × Nat × Nat)) (F : List (Nat × Nat × Nat) → Nat), (∀ S, F S = 0) → ss F L = 0
  | [], F, h => h []
  | e :: L, F, h => by
    show ss F L + ss (fun S => F (e :: S)) L = 0
    rw [ss_zero L F h, ss_zero L (fun S => F (e :: S)) (fun S => h _)]
theorem ss_first : ∀ (L : List (Nat × Nat × Nat)) (F : List (Nat × Nat × Nat) → Nat), (∀ e S, F (e :: S) = 0) → ss F L = F []
  | [], F, h => rfl
  | e :: L, F, h => by
    show ss F L + ss (fun S => F (e :: S)) L = F []
    rw [ss_first L F h, ss_zero L (fun S => F (e :: S)) (fun S => h _ _), Nat.add_zero]
theorem ss_mul (c : Nat) : ∀ (L : List (Nat × Nat × Nat)) (F : List (Nat × Nat × Nat) → Nat), ss (fun S => c * F S) L = c * ss F L
  | [], F => rfl
  | e :: L, F => by
    show ss (fun S => c * F S) L + ss (fun S => c * F (e :: S)) L = c * (ss F L + ss (fun S => F (e :: S)) L)
    rw [ss_mul c L F, ss_mul c L (fun S => F (e :: S)), Nat.mul_add]
theorem ss_congr {F G : List (Nat × Nat × Nat) → Nat} (h : ∀ S, F S = G S) (L : List (Nat × Nat × Nat)) : ss F L = ss G L := by
  rw [show F = G from funext h]
theorem foldl_mul : ∀ (S : List (Nat × Nat × Nat)) (x : Nat), S.foldl (fun a e => a * e.2.2) x = x * S.foldl (fun a e => a * e.2.2) 1
  | [], x => by simp
  | e :: S, x => by
    simp only [List.foldl_cons]
    rw [foldl_mul S (x * e.2.2), foldl_mul S (1 * e.2.2), Nat.one_mul, Nat.mul_assoc]
theorem wt_cons (e : Nat × Nat × Nat) (S : List (Nat × Nat × Nat)) : wt (e :: S) = e.2.2 * wt S := by
  unfold wt
  rw [List.foldl_cons, foldl_mul, Nat.one_mul]
theorem fs_false : ∀ (S : List (Nat × Nat × Nat)) (p : Nat → Nat), (S.foldl fs (false, p)).1 = false
  | [], p => rfl
  | e :: S, p => by
    rw [List.foldl_cons]
    exact fs_false S (jn p e)
def Gk (lv : (Nat → Nat) → Nat) (k : Nat) (p : Nat → Nat) (S : List (Nat × Nat × Nat)) : Nat := if S.length = k ∧ (S.foldl fs (true, p)).1 = true then lv (S.foldl fs (true, p)).2 * wt S else 0
theorem Gk_same {lv : (Nat → Nat) → Nat} {k : Nat} {p : Nat → Nat} {e : Nat × Nat × Nat} (h : p e.1 = p e.2.1) (S : List (Nat × Nat × Nat)) : Gk lv k p (e :: S) = 0 := by
  unfold Gk
  have e1 : fs (true, p) e = (false, jn p e) := by
    unfold fs
    simp [h]
  rw [List.foldl_cons, e1, if_neg]
  rw [fs_false]
  simp
theorem Gk_other {lv : (Nat → Nat) → Nat} {k : Nat} {p : Nat → Nat} {e : Nat × Nat × Nat} (h : p e.1 ≠ p e.2.1) (S : List (Nat × Nat × Nat)) : Gk lv (k + 1) p (e :: S) = e.2.2 * Gk lv k (jn p e) S := by
  unfold Gk
  have e1 : fs (true, p) e = (true, jn p e) := by
    unfold fs
    simp [h]
  rw [List.foldl_cons, e1, wt_cons, List.length_cons]
  by_cases c : S.length = k ∧ (S.foldl fs (true, jn p e)).1 = true
  · rw [if_pos ⟨by omega, c.2⟩, if_pos c, Nat.mul_left_comm]
  · rw [if_neg (fun q => c ⟨by omega, q.2⟩), if_neg c, Nat.mul_zero]
def lev (ρ : Nat → Int) : List Mo → Int
  | [] => 0
  | t :: ts => mev ρ t + lev ρ ts
theorem mev_rev (ρ : Nat → Int) : ∀ m t, mev ρ (List.reverseAux m t) = mev ρ m * mev ρ t
  | [], t => by simp [List.reverseAux, mev]
  | x :: m, t => by
    show mev ρ (List.reverseAux m (x :: t)) = ρ x * mev ρ m * mev ρ t
    rw [mev_rev ρ m (x :: t)]
    show mev ρ m * (ρ x * mev ρ t) = _
    rw [Int.mul_left_comm, Int.mul_assoc]
theorem pev_leaf (ρ : Nat → Int) (m : Mo) (out : Po) : ∀ ts : List Mo, pev ρ (ts.foldr (fun t o => (List.reverseAux m t, 1) :: o) out) = mev ρ m * lev ρ ts + pev ρ out
  | [] => by simp [lev]
  | t :: ts => by
    show 1 * mev ρ (List.reverseAux m t) + pev ρ (ts.foldr (fun t o => (List.reverseAux m t, 1) :: o) out) = mev ρ m * (mev ρ t + lev ρ ts) + pev ρ out
    rw [pev_leaf ρ m out ts, mev_rev, Int.mul_add, Int.one_mul]
    omega
theorem lat_tab (p : Nat → Nat) {x : Nat} (h : x < 6) : lat ((List.range 6).map p) x = p x := by
  unfold lat
  rw [List.getD_eq_getElem?_getD, List.getElem?_map, List.getElem?_range h]
  rfl
theorem bbeq {α : Type} (x y : Nat) (a b : α) : (bif Nat.beq x y then a else b) = if x = y then a else b := by
  by_cases c : x = y
  · rw [if_pos c, c, Nat.beq_refl]
    rfl
  · rw [if_neg c]
    cases e : Nat.beq x y
    · rfl
    · exact absurd (Nat.eq_of_beq_eq_true e) c
theorem ljn_tab (p : Nat → Nat) (e : Nat × Nat × Nat) : ljn ((List.range 6).map p) (p e.1) (p e.2.1) = (List.range 6).map (jn p e) := by
  unfold ljn
  rw [List.map_map]
  congr 1
  funext x
  show (bif Nat.beq (p x) (p e.2.1) then p e.1 else p x) = jn p e x
  rw [bbeq]
  rfl
theorem gP_ev {ρ : Nat → Int} {w : Nat → Nat → Nat} {lf : List Nat → List Mo} {lv : (Nat → Nat) → Nat} (hl : ∀ p, lev ρ (lf ((List.range 6).map p)) = (lv p : Int)) : ∀ (L : List (Nat × Nat)) (k : Nat) (p : Nat → Nat) (m : Mo) (out : Po), (∀ q ∈ L, q.1 < 6 ∧ q.2 < 6 ∧ ρ (ev q) = (w q.1 q.2 : Int)) → pev ρ (gP lf k L ((List.range 6).map p) m out) = mev ρ m * (ss (Gk lv k p) (AL w L) : Int) + pev ρ out
  | L, 0, p, m, out, _ => by
    have e1 : gP lf 0 L ((List.range 6).map p) m out = (lf ((List.range 6).map p)).foldr (fun t o => (List.reverseAux m t, 1) :: o) out := by
      cases L <;> rfl
    rw [e1, pev_leaf, hl, ss_first _ _ (fun e S => by unfold Gk; rw [if_neg (fun q => by simp at q)])]
    unfold Gk
    rw [if_pos ⟨rfl, rfl⟩]
    simp [wt]
  | [], k + 1, p, m, out, _ => by
    show pev ρ out = mev ρ m * ((Gk lv (k + 1) p [] : Nat) : Int) + pev ρ out
    unfold Gk
    rw [if_neg (fun q => by simp at q)]
    simp
  | e :: L, k + 1, p, m, out, h => by
    obtain ⟨h1, h2, h3⟩ := h e List.mem_cons_self
    have hL : ∀ q ∈ L, q.1 < 6 ∧ q.2 < 6 ∧ ρ (ev q) = (w q.1 q.2 : Int) := fun q hq => h q (List.mem_cons_of_mem _ hq)
    show pev ρ (bif Nat.beq (lat ((List.range 6).map p) e.1) (lat ((List.range 6).map p) e.2) then gP lf (k + 1) L ((List.range 6).map p) m out else gP lf k L (ljn ((List.range 6).map p) (lat ((List.range 6).map p) e.1) (lat ((List.range 6).map p) e.2)) (ev e :: m) (gP lf (k + 1) L ((List.range 6).map p) m out)) = mev ρ m * ((ss (Gk lv (k + 1) p) (AL w L) + ss (fun S => Gk lv (k + 1) p ((e.1, e.2, w e.1 e.2) :: S)) (AL w L) : Nat) : Int) + pev ρ out
    rw [lat_tab p h1, lat_tab p h2, bbeq]
    by_cases c : p e.1 = p e.2
    · rw [if_pos c, gP_ev hl L (k + 1) p m out hL, ss_zero _ _ (Gk_same (e := (e.1, e.2, w e.1 e.2)) c)]
      rfl
    · rw [if_neg c, ljn_tab p (e.1, e.2, w e.1 e.2), gP_ev hl L k (jn p (e.1, e.2, w e.1 e.2)) _ _ hL, gP_ev hl L (k + 1) p m out hL, ss_congr (Gk_other (e := (e.1, e.2, w e.1 e.2)) c), ss_mul]
      show ρ (ev e) * mev ρ m * _ + _ = _
      rw [h3, Int.natCast_add, Int.natCast_mul, Int.mul_add]
      dsimp only
      rw [Int.mul_comm (w e.1 e.2 : Int) (mev ρ m), Int.mul_assoc]
      omega
/-- the widths and what is given, as values -/
def vr (w : Nat → Nat → Nat) (d : Nat → Nat) (x : Nat) : Int := if 50 ≤ x then (d (x - 50) : Int) else (w ((x - 6) / 6) ((x - 6) % 6) : Int)
theorem vr_ev (w : Nat → Nat → Nat) (d : Nat → Nat) {i j : Nat} (hi : i < 6) (hj : j < 6) : vr w d (ev (i, j)) = (w i j : Int) := by
  unfold vr ev
  dsimp only
  rw [if_neg (by omega), show (6 + 6 * i + j - 6) / 6 = i by omega, show (6 + 6 * i + j - 6) % 6 = j by omega]
theorem vr_d (w : Nat → Nat → Nat) (d : Nat → Nat) (x : Nat) : vr w d (50 + x) = (d x : Int) := by
  unfold vr
  rw [if_pos (by omega), show 50 + x - 50 = x by omega]
theorem prs_b {n : Nat} (hn : n ≤ 6) (w : Nat → Nat → Nat) (d : Nat → Nat) : ∀ q ∈ prs n, q.1 < 6 ∧ q.2 < 6 ∧ vr w d (ev q) = (w q.1 q.2 : Int) := by
  rintro ⟨i, j⟩ hq
  have := mem_prs.mp hq
  exact ⟨by dsimp only; omega, by dsimp only; omega, vr_ev w d (by omega) (by omega)⟩
theorem id_tab : List.range 6 = (List.range 6).map id := by simp
theorem tP_ev {n : Nat} (h1 : 1 ≤ n) (hn : n ≤ 6) (w : Nat → Nat → Nat) (d : Nat → Nat) : pev (vr w d) (tP n) = (ss (tT n) (AL w (prs n)) : Int) := by
  unfold tP
  rw [id_tab, gP_ev (w := w) (lv := fun _ => 1) (fun p => rfl) (prs n) (n - 1) id [] [] (prs_b hn w d)]
  rw [ss_congr (G := tT n) (fun S => ?_)]
  · simp [mev, pev]
  · unfold Gk tT fok fo
    by_cases c : S.length = n - 1
    · have : (S.length + 1 == n) = true := by simp; omega
      rw [this, Bool.true_and, Nat.one_mul]
      by_cases c2 : (S.foldl fs (true, id)).1 = true
      · rw [if_pos ⟨c, c2⟩, if_pos c2]
      · rw [if_neg (fun q => c2 q.2), if_neg c2]
    · have : (S.length + 1 == n) = false := by simp; omega
      rw [this, Bool.false_and, if_neg (fun q => c q.1), if_neg (by decide)]
theorem lev_filter (w : Nat → Nat → Nat) (d : Nat → Nat) (c : Nat → Bool) : ∀ L : List Nat, lev (vr w d) ((L.filter c).map (fun x => [50 + x])) = ((L.map (fun x => if c x = true then d x else 0)).sum : Nat)
  | [] => rfl
  | x :: L => by
    rw [List.map_cons, List.sum_cons, Int.natCast_add, ← lev_filter w d c L]
    by_cases h : c x = true
    · rw [List.filter_cons_of_pos h, if_pos h]
      show vr w d (50 + x) * 1 + _ = _
      rw [vr_d, Int.mul_one]
    · rw [List.filter_cons_of_neg h, if_neg h]
      simp
theorem bP_ev {n u v : Nat} (h2 : 2 ≤ n) (hn : n ≤ 6) (hu : u < n) (hv : v < n) (w : Nat → Nat → Nat) (d : Nat → Nat) : pev (vr w d) (bP n v u) = (ss (sT n d u v) (AL w (prs n)) : Int) := by
  unfold bP
  rw [id_tab, gP_ev (w := w) (lv := fun p => if p u = p v then 0 else dsum n d p u) (fun p => ?_) (prs n) (n - 2) id [] [] (prs_b hn w d)]
  · rw [ss_congr (G := sT n d u v) (fun S => ?_)]
    · simp [mev, pev]
    · unfold Gk sT fok fo
      by_cases c : S.length = n - 2
      · have : (S.length + 2 == n) = true := by simp; omega
        rw [this, Bool.true_and]
        by_cases c2 : (S.foldl fs (true, id)).1 = true
        · by_cases c3 : (S.foldl fs (true, id)).2 u = (S.foldl fs (true, id)).2 v
          · rw [if_pos ⟨c, c2⟩]
            dsimp only
            rw [if_pos c3, if_neg (fun q => q.2 c3), Nat.zero_mul]
          · rw [if_pos ⟨c, c2⟩]
            dsimp only
            rw [if_neg c3, if_pos ⟨c2, c3⟩]
        · rw [if_neg (fun q => c2 q.2), if_neg (fun q => c2 q.1)]
      · have : (S.length + 2 == n) = false := by simp; omega
        rw [this, Bool.false_and, if_neg (fun q => c q.1), if_neg (fun q => by cases q.1)]
  · unfold bF
    rw [lat_tab p (by omega), lat_tab p (by omega), bbeq]
    by_cases c : p u = p v
    · rw [if_pos c]
      show (0 : Int) = ((if p u = p v then 0 else dsum n d p u : Nat) : Int)
      rw [if_pos c]
      rfl
    · rw [if_neg c, lev_filter]
      show _ = ((if p u = p v then 0 else dsum n d p u : Nat) : Int)
      rw [if_neg c]
      unfold dsum
      congr 2
      refine List.map_congr_left (fun x hx => ?_)
      have := List.mem_range.mp hx
      rw [lat_tab p (by omega)]
      by_cases c2 : p x = p u
      · rw [if_pos c2, c2, if_pos (Nat.beq_refl _)]
      · rw [if_neg c2, if_neg (fun q => c2 (Nat.eq_of_beq_eq_true q))]
/-- lines of width 0 do not matter -/
theorem ss_Ln (w : Nat → Nat → Nat) : ∀ (L : List (Nat × Nat)) (F : List (Nat × Nat × Nat) → Nat), (∀ S, (∃ e ∈ S, e.2.2 = 0) → F S = 0) → ss F (AL w L) = ss F (L.filterMap (lf w))
  | [], F, _ => rfl
  | q :: L, F, h => by
    show ss F (AL w L) + ss (fun S => F ((q.1, q.2, w q.1 q.2) :: S)) (AL w L) = _
    by_cases c : w q.1 q.2 = 0
    · have e0 : lf w q = none := by unfold lf; rw [if_pos c]
      rw [List.filterMap_cons_none e0, ss_Ln w L F h, ss_zero _ (fun S => F ((q.1, q.2, w q.1 q.2) :: S)) (fun S => h _ ⟨_, List.mem_cons_self, c⟩), Nat.add_zero]
    · have e0 : lf w q = some (q.1, q.2, w q.1 q.2) := by unfold lf; rw [if_neg c]
      rw [List.filterMap_cons_some e0, ss_Ln w L F h, ss_Ln w L (fun S => F ((q.1, q.2, w q.1 q.2) :: S)) (fun S ⟨e, he, h0⟩ => h _ ⟨e, List.mem_cons_of_mem _ he, h0⟩)]
      rfl
theorem wt_zero : ∀ {S : List (Nat × Nat × Nat)}, (∃ e ∈ S, e.2.2 = 0) → wt S = 0
  | [], ⟨_, h, _⟩ => absurd h List.not_mem_nil
  | a :: S, ⟨e, he, h0⟩ => by
    rw [wt_cons]
    rcases List.mem_cons.mp he with rfl | he
    · rw [h0, Nat.zero_mul]
    · rw [wt_zero ⟨e, he, h0⟩, Nat.mul_zero]
theorem tT_Ln (n : Nat) (w : Nat → Nat → Nat) : ss (tT n) (AL w (prs n)) = ss (tT n) (Ln n w) := ss_Ln w (prs n) (tT n) (fun S h => by
  unfold tT
  rw [wt_zero h]
  split <;> rfl)
theorem sT_Ln (n : Nat) (d : Nat → Nat) (u v : Nat) (w : Nat → Nat → Nat) : ss (sT n d u v) (AL w (prs n)) = ss (sT n d u v) (Ln n w) := ss_Ln w (prs n) _ (fun S h => by
  unfold sT
  rw [wt_zero h, Nat.mul_zero]
  split <;> rfl)
/-- the matrix -/
def lpl (n : Nat) (w : Nat → Nat → Nat) (d : Nat → Nat) (a b : Nat) : Int := if b = 9 then (d a : Int) else if a = b then (dg n w a : Int) else -(w a b : Int)
theorem vr_x {w : Nat → Nat → Nat} (hs : ∀ u v, w u v = w v u) (d : Nat → Nat) {a b : Nat} (ha : a < 6) (hb : b < 6) : vr w d (xP a b) = (w a b : Int) := by
  unfold xP
  cases Nat.blt a b
  · rw [cond_false, vr_ev w d hb ha, hs]
  · rw [cond_true, vr_ev w d ha hb]
theorem dP_ev {n : Nat} {w : Nat → Nat → Nat} (hn : n ≤ 6) (hs : ∀ u v, w u v = w v u) (h0 : ∀ u, w u u = 0) (d : Nat → Nat) {a : Nat} (ha : a < 6) : pev (vr w d) (dP n a) = (dg n w a : Int) := by
  unfold dP dg
  have key : ∀ L : List Nat, (∀ x ∈ L, x < 6) → pev (vr w d) (L.foldr (fun x p => bif Nat.beq x a then p else padd [([xP a x], 1)] p) []) = ((L.map (w a)).sum : Nat) := by
    intro L
    induction L with
    | nil => intro _; rfl
    | cons x L ih =>
      intro h
      rw [List.foldr_cons, bbeq, List.map_cons, List.sum_cons, Int.natCast_add, ← ih (fun y hy => h y (List.mem_cons_of_mem _ hy))]
      by_cases c : x = a
      · rw [if_pos c, c, h0]
        simp
      · rw [if_neg c, pev_padd]
        show 1 * (vr w d (xP a x) * 1) + 0 + _ = _
        rw [vr_x hs d ha (h x List.mem_cons_self)]
        omega
  exact key _ (fun x hx => by have := List.mem_range.mp hx; omega)
theorem eP_ev {n : Nat} {w : Nat → Nat → Nat} (hn : n ≤ 6) (hs : ∀ u v, w u v = w v u) (h0 : ∀ u, w u u = 0) (d : Nat → Nat) {a b : Nat} (ha : a < 6) (hb : b = 9 ∨ b < 6) : pev (vr w d) (eP n a b) = lpl n w d a b := by
  unfold eP lpl
  rw [bbeq, bbeq]
  by_cases c : b = 9
  · rw [if_pos c, if_pos c]
    show 1 * (vr w d (50 + a) * 1) + 0 = _
    rw [vr_d]
    omega
  · rw [if_neg c, if_neg c]
    by_cases c2 : a = b
    · rw [if_pos c2, if_pos c2, dP_ev hn hs h0 d ha]
    · rw [if_neg c2, if_neg c2]
      show -1 * (vr w d (xP a b) * 1) + 0 = _
      rw [vr_x hs d ha (by omega)]
      omega
theorem pd_ev {n : Nat} {w : Nat → Nat → Nat} (hn : n ≤ 6) (hs : ∀ u v, w u v = w v u) (h0 : ∀ u, w u u = 0) (d : Nat → Nat) {rs cs : List Nat} (hr : ∀ a ∈ rs, a < 6) (hc : ∀ b ∈ cs, b = 9 ∨ b < 6) : pev (vr w d) (pd (eP n) rs cs) = dtI (lpl n w d) rs cs := by
  rw [pev_pd (vr w d) (eP n) (fun i j => pev (vr w d) (eP n i j)) (fun _ _ => rfl)]
  exact dtI_congr rs cs (fun r hr' c hc' => eP_ev hn hs h0 d (hr r hr') (hc c hc'))
theorem ord_b {n v u : Nat} (hn : n ≤ 6) (hu : u < n) : ∀ a ∈ ord n v u, a < n := by
  intro a ha
  unfold ord at ha
  rcases List.mem_append.mp ha with h | h
  · exact List.mem_range.mp (List.mem_filter.mp h).1
  · rw [List.mem_singleton.mp h]
    exact hu
