/-! the matrix's determinants are sums over forests -/
theorem mt_tree {n : Nat} {w : Nat → Nat → Nat} (h2 : 2 ≤ n) (hn : n ≤ 6) (hs : ∀ u v, w u v = w v u) (h0 : ∀ u, w u u = 0) (d : Nat → Nat) : dtI (lpl n w d) (ord n 0 1) (ord n 0 1) = (ss (tT n) (Ln n w) : Int) := by
  rw [← tT_Ln, ← tP_ev (by omega) hn w d, ← peq_eq (ckT_all h2 hn)]
  refine (pd_ev hn hs h0 d (fun a ha => ?_) (fun a ha => Or.inr ?_)).symm
  · have := ord_b hn (by omega) a ha
    omega
  · have := ord_b hn (by omega) a ha
    omega
theorem mt_b {n u v : Nat} {w : Nat → Nat → Nat} (h2 : 2 ≤ n) (hn : n ≤ 6) (hs : ∀ u v, w u v = w v u) (h0 : ∀ u, w u u = 0) (d : Nat → Nat) (hu : u < n) (hv : v < n) (huv : u ≠ v) : dtI (lpl n w d) (ord n v u) ((ord n v u).dropLast ++ [9]) = (ss (sT n d u v) (Ln n w) : Int) := by
  rw [← sT_Ln, ← bP_ev h2 hn hu hv w d, ← peq_eq (ckB_all h2 hn hv hu huv)]
  refine (pd_ev hn hs h0 d (fun a ha => ?_) (fun a ha => ?_)).symm
  · have := ord_b hn hu a ha
    omega
  · rcases List.mem_append.mp ha with h | h
    · have := ord_b hn hu a ((List.dropLast_sublist _).subset h)
      exact Or.inr (by omega)
    · exact Or.inl (List.mem_singleton.mp h)
/-- the leading minors -/
def pv (n : Nat) (w : Nat → Nat → Nat) (d : Nat → Nat) (v u k : Nat) : Int := dtI (lpl n w d) ((ord n v u).take k) ((ord n v u).take k)
theorem vr_nn (w : Nat → Nat → Nat) (d : Nat → Nat) (x : Nat) : 0 ≤ vr w d x := by
  unfold vr
  split <;> exact Int.natCast_nonneg _
theorem ord_len {n v u : Nat} (h2 : 2 ≤ n) (hn : n ≤ 6) (hv : v < n) (hu : u < n) (huv : u ≠ v) : (ord n v u).length = n - 1 := by
  have key : ∀ n, n < 7 → ∀ v, v < n → ∀ u, u < n → u ≠ v → (ord n v u).length = n - 1 := by decide +kernel
  exact key n (by omega) v hv u hu huv
theorem pv_chain {n : Nat} {w : Nat → Nat → Nat} (h2 : 2 ≤ n) (hn : n ≤ 6) (hs : ∀ u v, w u v = w v u) (h0 : ∀ u, w u u = 0) (d : Nat → Nat) {k : Nat} (hk : k + 2 < n) : ∃ c : Nat, pv n w d 0 1 (k + 2) ≤ c * pv n w d 0 1 (k + 1) := by
  have hc := ckC_all h2 hn
  unfold ckC at hc
  rw [List.all_eq_true] at hc
  have h := pos_ge (vr_nn w d) (hc k (List.mem_range.mpr (by omega)))
  have hb : ∀ j, ∀ a ∈ (ord n 0 1).take j, a < 6 := fun j a ha => by
    have := ord_b hn (by omega) a (List.mem_of_mem_take ha)
    omega
  rw [pev_padd, pev_pneg, pev_pmul, pd_ev hn hs h0 d (hb _) (fun a ha => Or.inr (hb _ a ha)), pd_ev hn hs h0 d (hb _) (fun a ha => Or.inr (hb _ a ha))] at h
  have hl : lat (ord n 0 1) (k + 1) < 6 := by
    unfold lat
    have hlen := ord_len (v := 0) (u := 1) h2 hn (by omega) (by omega) (by omega)
    have hlt : k + 1 < (ord n 0 1).length := by omega
    rw [List.getD_eq_getElem?_getD, List.getElem?_eq_getElem hlt]
    have := ord_b hn (by omega) _ (List.getElem_mem hlt)
    show (ord n 0 1)[k + 1] < 6
    omega
  rw [dP_ev hn hs h0 d hl] at h
  refine ⟨dg n w (lat (ord n 0 1) (k + 1)), ?_⟩
  unfold pv
  omega
theorem pv_last {n : Nat} {w : Nat → Nat → Nat} (h2 : 2 ≤ n) (hn : n ≤ 6) (hs : ∀ u v, w u v = w v u) (h0 : ∀ u, w u u = 0) (d : Nat → Nat) : pv n w d 0 1 (n - 1) = (ss (tT n) (Ln n w) : Int) := by
  unfold pv
  rw [List.take_of_length_le (by rw [ord_len (v := 0) (u := 1) h2 hn (by omega) (by omega) (by omega)]; exact Nat.le_refl _), mt_tree h2 hn hs h0 d]
/-- a minor that is not above 0: no tree -/
theorem pv_down {n : Nat} {w : Nat → Nat → Nat} (h2 : 2 ≤ n) (hn : n ≤ 6) (hs : ∀ u v, w u v = w v u) (h0 : ∀ u, w u u = 0) (d : Nat → Nat) : ∀ m k, k + m + 1 = n - 1 → pv n w d 0 1 (k + 1) ≤ 0 → ss (tT n) (Ln n w) = 0
  | 0, k, hk, h => by
    have := pv_last h2 hn hs h0 d
    rw [show n - 1 = k + 1 by omega] at this
    omega
  | m + 1, k, hk, h => by
    obtain ⟨c, hc⟩ := pv_chain h2 hn hs h0 d (k := k) (by omega)
    have h3 : (c : Int) * pv n w d 0 1 (k + 1) ≤ 0 := Int.mul_nonpos_of_nonneg_of_nonpos (Int.natCast_nonneg c) h
    exact pv_down h2 hn hs h0 d m (k + 1) (by omega) (Int.le_trans hc h3)
theorem pv_pos {n : Nat} {w : Nat → Nat → Nat} (h2 : 2 ≤ n) (hn : n ≤ 6) (hs : ∀ u v, w u v = w v u) (h0 : ∀ u, w u u = 0) (d : Nat → Nat) (hT : ss (tT n) (Ln n w) ≠ 0) {k : Nat} (hk : k + 1 < n) : 0 < pv n w d 0 1 (k + 1) := by
  refine Int.not_le.mp (fun h => hT ?_)
  exact pv_down h2 hn hs h0 d (n - 1 - (k + 1)) k (by omega) h
/-! hanging together, by colours -/
def CC (n : Nat) (S : List (Nat × Nat × Nat)) : Prop := ∀ c : Nat → Bool, (∀ e ∈ S, c e.1 = c e.2.1) → ∀ x y, x < n → y < n → c x = c y
theorem fo_2 : ∀ (S : List (Nat × Nat × Nat)) (b : Bool) (p : Nat → Nat), (S.foldl fs (b, p)).2 = S.foldl jn p
  | [], _, _ => rfl
  | e :: S, b, p => by
    rw [List.foldl_cons, List.foldl_cons]
    exact fo_2 S _ _
theorem jn_col {c : Nat → Bool} {p : Nat → Nat} {e : Nat × Nat × Nat} (hp : ∀ x y, p x = p y → c x = c y) (he : c e.1 = c e.2.1) : ∀ x y, jn p e x = jn p e y → c x = c y := by
  intro x y h
  unfold jn at h
  by_cases c1 : p x = p e.2.1
  · rw [if_pos c1] at h
    by_cases c2 : p y = p e.2.1
    · rw [hp x _ c1, hp y _ c2]
    · rw [if_neg c2] at h
      rw [hp x _ c1, ← he, hp _ y h]
  · rw [if_neg c1] at h
    by_cases c2 : p y = p e.2.1
    · rw [if_pos c2] at h
      rw [hp x _ h, hp y _ c2, he]
    · rw [if_neg c2] at h
      exact hp x y h
theorem fold_col {c : Nat → Bool} : ∀ (S : List (Nat × Nat × Nat)) (p : Nat → Nat), (∀ x y, p x = p y → c x = c y) → (∀ e ∈ S, c e.1 = c e.2.1) → ∀ x y, S.foldl jn p x = S.foldl jn p y → c x = c y
  | [], p, hp, _ => hp
  | e :: S, p, hp, h => by
    rw [List.foldl_cons]
    exact fold_col S (jn p e) (jn_col hp (h e List.mem_cons_self)) (fun f hf => h f (List.mem_cons_of_mem _ hf))
theorem fold_keep : ∀ (S : List (Nat × Nat × Nat)) (p : Nat → Nat) {x y : Nat}, p x = p y → S.foldl jn p x = S.foldl jn p y
  | [], p, _, _, h => h
  | e :: S, p, x, y, h => by
    rw [List.foldl_cons]
    refine fold_keep S (jn p e) ?_
    unfold jn
    rw [h]
theorem fold_line : ∀ (S : List (Nat × Nat × Nat)) (p : Nat → Nat), ∀ e ∈ S, S.foldl jn p e.1 = S.foldl jn p e.2.1
  | [], _, _, h => absurd h List.not_mem_nil
  | a :: S, p, e, h => by
    rw [List.foldl_cons]
    rcases List.mem_cons.mp h with rfl | h
    · refine fold_keep S (jn p e) ?_
      unfold jn
      rw [if_pos rfl]
      by_cases c : p e.1 = p e.2.1
      · rw [if_pos c]
      · rw [if_neg c]
    · exact fold_line S (jn p a) e h
theorem tog_iff {n : Nat} (hn : 1 ≤ n) (S : List (Nat × Nat × Nat)) : tog n (fo S).2 = true ↔ CC n S := by
  unfold fo tog
  rw [fo_2, List.all_eq_true]
  constructor
  · intro h c hc x y hx hy
    have h1 := h x (List.mem_range.mpr hx)
    have h2 := h y (List.mem_range.mpr hy)
    rw [beq_iff_eq] at h1 h2
    exact fold_col S id (fun x y q => by rw [show x = y from q]) hc x y (h1.trans h2.symm)
  · intro h x hx
    have := h (fun x => S.foldl jn id x == S.foldl jn id 0) (fun e he => by rw [fold_line S id e he]) x 0 (List.mem_range.mp hx) (by omega)
    rw [this]
    simp
/-- a spanning tree -/
theorem greedy : ∀ (L : List (Nat × Nat × Nat)) (p : Nat → Nat), ∃ S, (∀ F, F S ≤ ss F L) ∧ S.foldl fs (true, p) = (true, L.foldl jn p) ∧ ∀ e ∈ S, e ∈ L
  | [], p => ⟨[], fun F => Nat.le_refl _, rfl, fun _ h => h⟩
  | e :: L, p => by
    by_cases c : p e.1 = p e.2.1
    · have hj : jn p e = p := by
        funext x
        unfold jn
        by_cases c2 : p x = p e.2.1
        · rw [if_pos c2, c2, c]
        · rw [if_neg c2]
      obtain ⟨S, h1, h2, h3⟩ := greedy L p
      refine ⟨S, fun F => Nat.le_trans (h1 F) (Nat.le_add_right _ _), ?_, fun f hf => List.mem_cons_of_mem _ (h3 f hf)⟩
      rw [List.foldl_cons, hj, h2]
    · obtain ⟨S, h1, h2, h3⟩ := greedy L (jn p e)
      refine ⟨e :: S, fun F => Nat.le_trans (h1 (fun S => F (e :: S))) (Nat.le_add_left _ _), ?_, fun f hf => ?_⟩
      · rw [List.foldl_cons, List.foldl_cons, ← h2]
        congr 1
        unfold fs
        simp [c]
      · rcases List.mem_cons.mp hf with rfl | hf
        · exact List.mem_cons_self
        · exact List.mem_cons_of_mem _ (h3 f hf)
/-- parts are counted by their own numbers -/
def cf (n : Nat) (p : Nat → Nat) : Nat := ((List.range n).map (fun x => if p x = x then 1 else 0)).sum
def Rp (n : Nat) (p : Nat → Nat) : Prop := ∀ x, x < n → p x < n ∧ p (p x) = p x
theorem sum_one {n b : Nat} (h : b < n) : ((List.range n).map (fun x => if x = b then 1 else 0)).sum = 1 := by
  induction n with
  | zero => omega
  | succ n ih =>
    rw [sum_range_succ]
    by_cases c : b = n
    · subst c
      rw [if_pos rfl]
      have : ∀ m, m ≤ b → ((List.range m).map (fun x => if x = b then 1 else 0)).sum = 0 := by
        intro m
        induction m with
        | zero => intro _; rfl
        | succ m ihm =>
          intro hm
          rw [sum_range_succ, ihm (by omega), if_neg (by omega)]
      rw [this b (Nat.le_refl _)]
    · rw [ih (by omega), if_neg (fun q => c q.symm)]
theorem jn_rp {n : Nat} {p : Nat → Nat} {e : Nat × Nat × Nat} (hp : Rp n p) (h1 : e.1 < n) (h2 : e.2.1 < n) (c : p e.1 ≠ p e.2.1) : Rp n (jn p e) ∧ cf n (jn p e) + 1 = cf n p := by
  have a1 := hp e.1 h1
  have a2 := hp e.2.1 h2
  refine ⟨fun x hx => ?_, ?_⟩
  · have a3 := hp x hx
    unfold jn
    by_cases c1 : p x = p e.2.1
    · rw [if_pos c1]
      refine ⟨a1.1, ?_⟩
      rw [a1.2, if_neg c]
    · rw [if_neg c1]
      refine ⟨a3.1, ?_⟩
      rw [a3.2, if_neg c1]
  · have key : cf n p = cf n (jn p e) + ((List.range n).map (fun x => if x = p e.2.1 then 1 else 0)).sum := by
      unfold cf
      rw [← sum_add]
      congr 1
      refine List.map_congr_left (fun x hx => ?_)
      unfold jn
      by_cases c1 : p x = p e.2.1
      · rw [if_pos c1, c1]
        have c3 : ¬ p e.1 = x := fun q => by
          have e1 : p x = p e.1 := by rw [← q]; exact a1.2
          exact c (e1.symm.trans c1)
        rw [if_neg c3, Nat.zero_add]
        by_cases c2 : p e.2.1 = x
        · rw [if_pos c2, if_pos c2.symm]
        · rw [if_neg c2, if_neg (fun q => c2 q.symm)]
      · rw [if_neg c1]
        have c2 : ¬ x = p e.2.1 := fun q => c1 (by rw [q]; exact a2.2)
        rw [if_neg c2]
        rfl
    rw [key, sum_one a2.1]
theorem fold_rp {n : Nat} : ∀ (S : List (Nat × Nat × Nat)) (p : Nat → Nat), Rp n p → (∀ e ∈ S, e.1 < n ∧ e.2.1 < n) → (S.foldl fs (true, p)).1 = true → Rp n (S.foldl jn p) ∧ cf n (S.foldl jn p) + S.length = cf n p
  | [], p, hp, _, _ => ⟨hp, rfl⟩
  | e :: S, p, hp, h, hf => by
    obtain ⟨h1, h2⟩ := h e List.mem_cons_self
    have c : p e.1 ≠ p e.2.1 := fun q => by
      rw [List.foldl_cons] at hf
      have e1 : fs (true, p) e = (false, jn p e) := by
        unfold fs
        simp [q]
      rw [e1, fs_false] at hf
      cases hf
    have e1 : fs (true, p) e = (true, jn p e) := by
      unfold fs
      simp [c]
    rw [List.foldl_cons, e1] at hf
    obtain ⟨g1, g2⟩ := jn_rp hp h1 h2 c
    obtain ⟨k1, k2⟩ := fold_rp S (jn p e) g1 (fun f hf => h f (List.mem_cons_of_mem _ hf)) hf
    rw [List.foldl_cons]
    exact ⟨k1, by rw [List.length_cons]; omega⟩
theorem wt_pos : ∀ {S : List (Nat × Nat × Nat)}, (∀ e ∈ S, e.2.2 ≠ 0) → 0 < wt S
  | [], _ => Nat.zero_lt_one
  | e :: S, h => by
    rw [wt_cons]
    exact Nat.mul_pos (Nat.pos_of_ne_zero (h e List.mem_cons_self)) (wt_pos (fun f hf => h f (List.mem_cons_of_mem _ hf)))
theorem sum_ones (n : Nat) : ((List.range n).map (fun _ => 1)).sum = n := by
  induction n with
  | zero => rfl
  | succ n ih => rw [sum_range_succ (fun _ => 1), ih]
theorem tree_pos {n : Nat} (h1 : 1 ≤ n) {L : List (Nat × Nat × Nat)} (hb : ∀ e ∈ L, e.1 < n ∧ e.2.1 < n) (hz : ∀ e ∈ L, e.2.2 ≠ 0) (h : CC n L) : ss (tT n) L ≠ 0 := by
  have ht := (tog_iff h1 L).mpr h
  obtain ⟨S, g1, g2, g3⟩ := greedy L id
  have hf : (S.foldl fs (true, id)).1 = true := by rw [g2]
  obtain ⟨k1, k2⟩ := fold_rp (n := n) S id (fun x hx => ⟨hx, rfl⟩) (fun e he => hb e (g3 e he)) hf
  have e0 : cf n id = n := by
    unfold cf
    have : (fun x : Nat => if id x = x then 1 else 0) = fun _ => 1 := by
      funext x
      rw [if_pos (show id x = x from rfl)]
    rw [this]
    exact sum_ones n
  have eS : S.foldl jn id = L.foldl jn id := by
    have := congrArg Prod.snd g2
    rw [fo_2] at this
    exact this
  unfold fo tog at ht
  rw [fo_2, List.all_eq_true, ← eS] at ht
  have e1 : cf n (S.foldl jn id) = 1 := by
    have h0 := k1 0 (by omega)
    rw [← sum_one h0.1]
    unfold cf
    congr 1
    refine List.map_congr_left (fun x hx => ?_)
    have hx2 := ht x hx
    rw [beq_iff_eq] at hx2
    rw [hx2]
    by_cases c : S.foldl jn id 0 = x
    · rw [if_pos c, if_pos c.symm]
    · rw [if_neg c, if_neg (fun q => c q.symm)]
  have hT : tT n S = wt S := by
    unfold tT fok fo
    rw [if_pos]
    rw [hf, Bool.and_true]
    simp
    omega
  have := g1 (tT n)
  have := wt_pos (S := S) (fun e he => hz e (g3 e he))
  omega
