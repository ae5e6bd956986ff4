/-! two trees apart: there are some -/
theorem ss_sub {S L : List (Nat × Nat × Nat)} (h : S.Sublist L) : ∀ F : List (Nat × Nat × Nat) → Nat, F S ≤ ss F L := by
  induction h with
  | slnil => exact fun F => Nat.le_refl _
  | cons a _ ih => exact fun F => Nat.le_trans (ih F) (Nat.le_add_right _ _)
  | cons_cons a _ ih => exact fun F => Nat.le_trans (ih (fun S => F (a :: S))) (Nat.le_add_left _ _)
theorem greedy2 : ∀ (L : List (Nat × Nat × Nat)) (p : Nat → Nat), ∃ S : List (Nat × Nat × Nat), S.Sublist L ∧ S.foldl fs (true, p) = (true, L.foldl jn p)
  | [], p => ⟨[], List.Sublist.slnil, rfl⟩
  | e :: L, p => by
    by_cases c : p e.1 = p e.2.1
    · have hj : jn p e = p := by
        funext x
        unfold jn
        by_cases c2 : p x = p e.2.1
        · rw [if_pos c2, c2, c]
        · rw [if_neg c2]
      obtain ⟨S, h1, h2⟩ := greedy2 L p
      refine ⟨S, h1.cons e, ?_⟩
      rw [List.foldl_cons, hj, h2]
    · obtain ⟨S, h1, h2⟩ := greedy2 L (jn p e)
      refine ⟨e :: S, h1.cons_cons e, ?_⟩
      rw [List.foldl_cons, List.foldl_cons, ← h2]
      congr 1
      unfold fs
      simp [c]
theorem jn_at (p : Nat → Nat) (e : Nat × Nat × Nat) (x : Nat) : jn p e x = if p x = p e.2.1 then p e.1 else p x := rfl
theorem first_join {u v : Nat} : ∀ (S : List (Nat × Nat × Nat)) (p : Nat → Nat), p u ≠ p v → S.foldl jn p u = S.foldl jn p v → ∃ P e R, S = P ++ e :: R ∧ P.foldl jn p u ≠ P.foldl jn p v ∧ jn (P.foldl jn p) e u = jn (P.foldl jn p) e v
  | [], p, h1, h2 => absurd h2 h1
  | e :: S, p, h1, h2 => by
    by_cases c : jn p e u = jn p e v
    · exact ⟨[], e, S, rfl, h1, c⟩
    · obtain ⟨P, f, R, g1, g2, g3⟩ := first_join S (jn p e) c h2
      exact ⟨e :: P, f, R, by rw [g1]; rfl, g2, g3⟩
theorem jn_ref {p q : Nat → Nat} (e : Nat × Nat × Nat) (h : ∀ x y, q x = q y → p x = p y) : ∀ x y, jn q e x = jn q e y → jn p e x = jn p e y := by
  intro x y hxy
  unfold jn at hxy ⊢
  by_cases c1 : q x = q e.2.1
  · rw [if_pos c1] at hxy
    rw [if_pos (h _ _ c1)]
    by_cases c2 : q y = q e.2.1
    · rw [if_pos (h _ _ c2)]
    · rw [if_neg c2] at hxy
      have h3 := h _ _ hxy
      by_cases c3 : p y = p e.2.1
      · rw [if_pos c3]
      · rw [if_neg c3, h3]
  · rw [if_neg c1] at hxy
    by_cases c2 : q y = q e.2.1
    · rw [if_pos c2] at hxy
      have h3 := h _ _ hxy
      rw [if_pos (h _ _ c2)]
      by_cases c3 : p x = p e.2.1
      · rw [if_pos c3]
      · rw [if_neg c3, h3]
    · rw [if_neg c2] at hxy
      have h3 := h _ _ hxy
      rw [h3]
theorem flag_ref : ∀ (R : List (Nat × Nat × Nat)) (p q : Nat → Nat), (∀ x y, q x = q y → p x = p y) → (R.foldl fs (true, p)).1 = true → (R.foldl fs (true, q)).1 = true
  | [], _, _, _, _ => rfl
  | e :: R, p, q, h, hf => by
    rw [List.foldl_cons] at hf ⊢
    have c : p e.1 ≠ p e.2.1 := fun r => by
      have e1 : fs (true, p) e = (false, jn p e) := by
        unfold fs
        simp [r]
      rw [e1, fs_false] at hf
      cases hf
    have e1 : fs (true, p) e = (true, jn p e) := by
      unfold fs
      simp [c]
    have e2 : fs (true, q) e = (true, jn q e) := by
      have : q e.1 ≠ q e.2.1 := fun r => c (h _ _ r)
      unfold fs
      simp [this]
    rw [e1] at hf
    rw [e2]
    exact flag_ref R _ _ (jn_ref e h) hf
theorem fs_pair (S : List (Nat × Nat × Nat)) (b : Bool) (p : Nat → Nat) : S.foldl fs (b, p) = ((S.foldl fs (b, p)).1, S.foldl jn p) := by
  rw [← fo_2 S b p]
theorem tog_cf {n : Nat} {p : Nat → Nat} (h1 : 1 ≤ n) (hp : Rp n p) (h : ∀ x, x < n → p x = p 0) : cf n p = 1 := by
  have h0 := hp 0 (by omega)
  refine Eq.trans ?_ (sum_one h0.1)
  unfold cf
  congr 1
  refine List.map_congr_left (fun x hx => ?_)
  rw [h x (List.mem_range.mp hx)]
  by_cases c : p 0 = x
  · rw [if_pos c, if_pos c.symm]
  · rw [if_neg c, if_neg (fun q => c q.symm)]
theorem cf_id (n : Nat) : cf n id = n := by
  unfold cf
  have : (fun x : Nat => if id x = x then 1 else 0) = fun _ => 1 := by
    funext x
    rw [if_pos (show id x = x from rfl)]
  rw [this]
  exact sum_ones n
theorem two_trees {n u v : Nat} (h2 : 2 ≤ n) (hu : u < n) (hv : v < n) (huv : u ≠ v) {L : List (Nat × Nat × Nat)} (hb : ∀ e ∈ L, e.1 < n ∧ e.2.1 < n) (h : CC n L) : ∃ S : List (Nat × Nat × Nat), S.Sublist L ∧ fok n 2 S = true ∧ (fo S).2 u ≠ (fo S).2 v := by
  obtain ⟨S, s1, s2⟩ := greedy2 L id
  have hbS : ∀ e ∈ S, e.1 < n ∧ e.2.1 < n := fun e he => hb e (s1.subset he)
  have hf : (S.foldl fs (true, id)).1 = true := by rw [s2]
  have eS : S.foldl jn id = L.foldl jn id := by
    have := congrArg Prod.snd s2
    rw [fo_2] at this
    exact this
  have htL := (tog_iff (by omega) L).mpr h
  have hpL : ∀ x, x < n → S.foldl jn id x = S.foldl jn id 0 := fun x hx => by
    unfold fo tog at htL
    rw [fo_2, List.all_eq_true, ← eS] at htL
    have := htL x (List.mem_range.mpr hx)
    rw [beq_iff_eq] at this
    exact this
  have hCS : CC n S := (tog_iff (by omega) S).mp (by
    unfold fo tog
    rw [fo_2, List.all_eq_true]
    intro x hx
    rw [beq_iff_eq]
    exact hpL x (List.mem_range.mp hx))
  obtain ⟨k1, k2⟩ := fold_rp (n := n) S id (fun x hx => ⟨hx, rfl⟩) hbS hf
  have hlS : S.length + 1 = n := by
    rw [tog_cf (by omega) k1 hpL, cf_id] at k2
    omega
  obtain ⟨P, e, R, g1, g2, g3⟩ := first_join (u := u) (v := v) S id huv (by rw [hpL u hu, hpL v hv])
  subst g1
  have hfl : ((P ++ R).foldl fs (true, id)).1 = true := by
    rw [List.foldl_append] at hf ⊢
    have hP : (P.foldl fs (true, id)).1 = true := by
      cases q : (P.foldl fs (true, id)).1
      · rw [fs_pair P, q, fs_false] at hf
        cases hf
      · rfl
    rw [fs_pair P, hP] at hf ⊢
    rw [List.foldl_cons] at hf
    have c : P.foldl jn id e.1 ≠ P.foldl jn id e.2.1 := fun r => by
      have e1 : fs (true, P.foldl jn id) e = (false, jn (P.foldl jn id) e) := by
        unfold fs
        simp [r]
      rw [e1, fs_false] at hf
      cases hf
    have e1 : fs (true, P.foldl jn id) e = (true, jn (P.foldl jn id) e) := by
      unfold fs
      simp [c]
    rw [e1] at hf
    refine flag_ref R _ _ (fun x y hxy => ?_) hf
    rw [jn_at, jn_at, hxy]
  have hbS' : ∀ f ∈ P ++ R, f.1 < n ∧ f.2.1 < n := fun f hf => hbS f (by
    rcases List.mem_append.mp hf with q | q
    · exact List.mem_append.mpr (Or.inl q)
    · exact List.mem_append.mpr (Or.inr (List.mem_cons_of_mem _ q)))
  have hl' : (P ++ R).length + 2 = n := by
    rw [List.length_append] at hlS ⊢
    rw [List.length_cons] at hlS
    omega
  obtain ⟨k3, k4⟩ := fold_rp (n := n) (P ++ R) id (fun x hx => ⟨hx, rfl⟩) hbS' hfl
  have hnC : ¬ CC n (P ++ R) := fun q => by
    have ht := (tog_iff (by omega) (P ++ R)).mpr q
    unfold fo tog at ht
    rw [fo_2, List.all_eq_true] at ht
    have := tog_cf (by omega) k3 (fun x hx => by
      have := ht x (List.mem_range.mpr hx)
      rw [beq_iff_eq] at this
      exact this)
    rw [cf_id] at k4
    omega
  have hc : ∃ c : Nat → Bool, (∀ f ∈ P ++ R, c f.1 = c f.2.1) ∧ ¬ ∀ x y, x < n → y < n → c x = c y := by
    refine Classical.byContradiction fun q => hnC (fun c hc => ?_)
    exact Classical.byContradiction fun r => q ⟨c, hc, r⟩
  obtain ⟨c, c1, c2⟩ := hc
  have c3 : c e.1 ≠ c e.2.1 := fun q => c2 (hCS c (fun f hf => by
    rcases List.mem_append.mp hf with r | r
    · exact c1 f (List.mem_append.mpr (Or.inl r))
    · rcases List.mem_cons.mp r with rfl | r
      · exact q
      · exact c1 f (List.mem_append.mpr (Or.inr r))))
  have cP : ∀ x y, P.foldl jn id x = P.foldl jn id y → c x = c y := fold_col P id (fun x y q => by rw [show x = y from q]) (fun f hf => c1 f (List.mem_append.mpr (Or.inl hf)))
  have cuv : c u ≠ c v := by
    rw [jn_at, jn_at] at g3
    by_cases d1 : P.foldl jn id u = P.foldl jn id e.2.1
    · rw [if_pos d1] at g3
      by_cases d2 : P.foldl jn id v = P.foldl jn id e.2.1
      · exact absurd (d1.trans d2.symm) g2
      · rw [if_neg d2] at g3
        rw [cP _ _ d1, cP _ _ g3.symm]
        exact fun q => c3 q.symm
    · rw [if_neg d1] at g3
      by_cases d2 : P.foldl jn id v = P.foldl jn id e.2.1
      · rw [if_pos d2] at g3
        rw [cP _ _ d2, cP _ _ g3]
        exact c3
      · rw [if_neg d2] at g3
        exact absurd g3 g2
  refine ⟨P ++ R, List.Sublist.trans (List.Sublist.append (List.Sublist.refl P) (List.sublist_cons_self e R)) s1, ?_, fun q => cuv ?_⟩
  · unfold fok fo
    rw [hfl, Bool.and_true]
    simpa using hl'
  · unfold fo at q
    rw [fo_2] at q
    exact fold_col (P ++ R) id (fun x y q => by rw [show x = y from q]) c1 u v q
theorem S_pos {n u v : Nat} (h2 : 2 ≤ n) (hu : u < n) (hv : v < n) (huv : u ≠ v) {L : List (Nat × Nat × Nat)} (hb : ∀ e ∈ L, e.1 < n ∧ e.2.1 < n) (hz : ∀ e ∈ L, e.2.2 ≠ 0) (h : CC n L) {d : Nat → Nat} (hd : 0 < d u) : 0 < ss (sT n d u v) L := by
  obtain ⟨S, h1, h3, h4⟩ := two_trees h2 hu hv huv hb h
  have hs := ss_sub h1 (sT n d u v)
  have hw := wt_pos (S := S) (fun e he => hz e (h1.subset he))
  have hds : d u ≤ dsum n d (fo S).2 u := by
    have := sum_mono (f := fun x => if x = u then d u else 0) (g := fun x => if (fo S).2 x = (fo S).2 u then d x else 0) n (fun x _ => by
      by_cases c : x = u
      · rw [if_pos c, c, if_pos rfl]
        exact Nat.le_refl _
      · rw [if_neg c]
        exact Nat.zero_le _)
    have e1 : ((List.range n).map (fun x => if x = u then d u else 0)).sum = d u := by
      have e2 : ∀ m, ((List.range m).map (fun x => if x = u then d u else 0)).sum = d u * ((List.range m).map (fun x => if x = u then 1 else 0)).sum := by
        intro m
        induction m with
        | zero => rfl
        | succ m ih =>
          rw [sum_range_succ, sum_range_succ, ih, Nat.mul_add]
          by_cases c : m = u
          · rw [if_pos c, if_pos c, Nat.mul_one]
          · rw [if_neg c, if_neg c, Nat.mul_zero]
      rw [e2, sum_one hu, Nat.mul_one]
    rw [e1] at this
    exact this
  have hv2 : sT n d u v S = dsum n d (fo S).2 u * wt S := by
    unfold sT
    rw [if_pos ⟨h3, h4⟩]
  have : 0 < dsum n d (fo S).2 u * wt S := Nat.mul_pos (by omega) hw
  omega
theorem dg_pos {n u : Nat} {w : Nat → Nat → Nat} (hw : wok n w) (hu : u < n) (h : CC n (Ln n w)) : 0 < dg n w u := by
  refine Nat.pos_of_ne_zero fun q => ?_
  have h2 := hw.1
  have h0 : ∀ x, x < n → w u x = 0 := fun x hx => by
    refine Classical.byContradiction fun r => ?_
    have := sum_strict (f := fun _ => 0) (g := w u) n (fun _ _ => Nat.zero_le _) x hx (Nat.pos_of_ne_zero r)
    unfold dg at q
    omega
  have := h (fun x => decide (x = u)) (fun e he => by
    have hm := mem_Ln.mp he
    have n1 : e.1 ≠ u := fun r => by
      have := h0 e.2.1 hm.2.1
      rw [← r, ← hm.2.2.1] at this
      exact hm.2.2.2 this
    have n2 : e.2.1 ≠ u := fun r => by
      have := h0 e.1 (by omega)
      rw [← r, hw.2.2.1, ← hm.2.2.1] at this
      exact hm.2.2.2 this
    show decide (e.1 = u) = decide (e.2.1 = u)
    rw [decide_eq_false n1, decide_eq_false n2]) u (if u = 0 then 1 else 0) hu (by split <;> omega)
  simp at this
  by_cases c : u = 0
  · rw [if_pos c] at this
    omega
  · rw [if_neg c] at this
    exact c this.symm
theorem LnB {n : Nat} {w : Nat → Nat → Nat} : ∀ e ∈ Ln n w, e.1 < n ∧ e.2.1 < n := fun e he => by
  have := mem_Ln.mp he
  omega
theorem LnZ {n : Nat} {w : Nat → Nat → Nat} : ∀ e ∈ Ln n w, e.2.2 ≠ 0 := fun e he => (mem_Ln.mp he).2.2.2
