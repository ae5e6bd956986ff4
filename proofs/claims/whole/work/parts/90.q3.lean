/-! degrees and the whole in the reference -/
def din (x : Nat) (e : Nat × Nat × Nat) : Nat := if e.1 = x ∨ e.2.1 = x then e.2.2 else 0
def dgL (L : List (Nat × Nat × Nat)) (x : Nat) : Nat := (L.map (din x)).sum
/-- the sum without a place -/
def dgW (L : List (Nat × Nat × Nat)) (l : Option Nat) (x : Nat) (i : Nat) : Nat := ((List.range i).map (fun k => if l = some k then 0 else match L[k]? with
  | some e => din x e
  | none => 0)).sum
theorem f_mdegree_yes {σ : Sg} {L : List (Nat × Nat × Nat)} {l : Option Nat} {x : Nat} (h : RowAt σ 0 L) (hl : L.length ≤ 10) (hb : ∀ e ∈ L, e.1 < 6 ∧ e.2.1 < 6) (hx : x < 6) (hlo : ∀ k, l = some k → k < 10) : f_X7_degree σ (nI x) (wI l) = some (nI (dgW L l x L.length)) := by
  unfold f_X7_degree
  have key := wl_run (body := fun a : Int32 × Int32 => f_X7_degree_B5 σ (nI x) (wI l) a.1 a.2) (fun i => (nI (dgW L l x i), nI i)) L.length (b := nI (dgW L l x L.length)) (fun i hi => ?_) ?_ FU (FU_big (by omega))
  · rw [show ((0 : Int32), (0 : Int32)) = (nI (dgW L l x 0), nI 0) from rfl, key]
    rfl
  · dsimp only
    obtain ⟨e, hg⟩ : ∃ e, L[i]? = some e := ⟨_, List.getElem?_eq_getElem hi⟩
    obtain ⟨r1, r2, r3⟩ := h.2 i e hg
    rw [Nat.zero_add] at r1 r2 r3
    have hbe := hb e (List.mem_of_getElem? hg)
    have hs : dgW L l x (i + 1) = dgW L l x i + (if l = some i then 0 else din x e) := by
      unfold dgW
      rw [sum_range_succ, hg]
    have hJ0 : f_X7_degree_J61 (nI (dgW L l x i)) (nI i) = some (.inl (nI (dgW L l x i + 0), nI (i + 1))) := by
      unfold f_X7_degree_J61
      rw [vl_e, vl_e, il_0, nI_add, nI_1]
    have hJ1 : f_X7_degree_J48 σ (nI (dgW L l x i)) (nI i) = some (.inl (nI (dgW L l x i + e.2.2), nI (i + 1))) := by
      unfold f_X7_degree_J48
      rw [il_21, nI_add, gd_h (okI_nI (by omega) (by omega)), nI_clamp (by omega), r3, vl_e, vl_e, nI_add, nI_1]
    unfold f_X7_degree_B5
    rw [f_lines_yes h, Option.bind_some, if_neg (nI_ge hi (by omega)), hs]
    have hwl : (nI i = wI l) ↔ l = some i := by
      cases l with
      | none =>
        rw [wI_none]
        exact ⟨fun q => absurd q (nI_m9 (by omega)), fun q => by cases q⟩
      | some k =>
        rw [wI_some, nI_eq (by omega) (by have := hlo k rfl; omega)]
        constructor
        · intro q; rw [q]
        · intro q; exact (Option.some.inj q).symm
    by_cases c : l = some i
    · rw [if_pos (hwl.mpr c), if_pos c, hJ0]
    · rw [if_neg (fun q => c (hwl.mp q)), if_neg c, il_1, nI_add, gd_h (okI_nI (by omega) (by omega)), nI_clamp (by omega), r1]
      unfold din
      by_cases c1 : e.1 = x
      · rw [if_pos (by rw [c1]), if_pos (Or.inl c1), hJ1]
      · rw [if_neg (by rw [nI_eq (by omega) (by omega)]; exact c1), il_11, nI_add, gd_h (okI_nI (by omega) (by omega)), nI_clamp (by omega), r2]
        by_cases c2 : e.2.1 = x
        · rw [if_pos (by rw [c2]), if_pos (Or.inr c2), hJ1]
        · rw [if_neg (by rw [nI_eq (by omega) (by omega)]; exact c2), if_neg (by rintro (q | q); exact c1 q; exact c2 q), hJ0]
  · dsimp only
    unfold f_X7_degree_B5
    rw [f_lines_yes h, Option.bind_some, if_pos (nI_le (Nat.le_refl _) (by omega))]
theorem f_mwhole_yes {σ : Sg} {L : List (Nat × Nat × Nat)} (h : RowAt σ 0 L) (hl : L.length ≤ 10) : f_X7_whole σ = some (nI (whl L)) := by
  unfold f_X7_whole
  have key := wl_run (body := fun a : Int32 × Int32 => f_X7_whole_B4 σ a.1 a.2) (fun i => (nI (((L.take i).map (fun e => e.2.2)).sum), nI i)) L.length (b := nI (whl L)) (fun i hi => ?_) ?_ FU (FU_big (by omega))
  · rw [show ((0 : Int32), (0 : Int32)) = (nI (((L.take 0).map (fun e => e.2.2)).sum), nI 0) from rfl, key]
    rfl
  · dsimp only
    obtain ⟨e, hg⟩ : ∃ e, L[i]? = some e := ⟨_, List.getElem?_eq_getElem hi⟩
    obtain ⟨r1, r2, r3⟩ := h.2 i e hg
    rw [Nat.zero_add] at r3
    unfold f_X7_whole_B4
    rw [f_lines_yes h, Option.bind_some, if_neg (nI_ge hi (by omega)), il_21, nI_add, gd_h (okI_nI (by omega) (by omega)), nI_clamp (by omega), r3, vl_e, vl_e, nI_add, nI_1, ← sum_take_succ _ _ _ _ hg]
  · dsimp only
    unfold f_X7_whole_B4
    rw [f_lines_yes h, Option.bind_some, if_pos (nI_le (Nat.le_refl _) (by omega)), List.take_length]
    rfl
/-- without a line: the list less it -/
theorem dgW_none (L : List (Nat × Nat × Nat)) (x : Nat) : dgW L none x L.length = dgL L x := by
  have key : ∀ i, i ≤ L.length → dgW L none x i = ((L.take i).map (din x)).sum := by
    intro i
    induction i with
    | zero => intro _; rfl
    | succ i ih =>
      intro hi
      obtain ⟨e, hg⟩ : ∃ e, L[i]? = some e := ⟨_, List.getElem?_eq_getElem (by omega)⟩
      rw [sum_take_succ _ _ _ _ hg, ← ih (by omega)]
      unfold dgW
      rw [sum_range_succ, hg, if_neg (by simp)]
  rw [key _ (Nat.le_refl _), List.take_length]
  rfl
theorem dgW_some (L : List (Nat × Nat × Nat)) (x l : Nat) (hl : l < L.length) : dgW L (some l) x L.length = dgL (L.eraseIdx l) x := by
  have key : ∀ i, i ≤ L.length → dgW L (some l) x i = (((L.take i).eraseIdx l).map (din x)).sum := by
    intro i
    induction i with
    | zero => intro _; rfl
    | succ i ih =>
      intro hi
      obtain ⟨e, hg⟩ : ∃ e, L[i]? = some e := ⟨_, List.getElem?_eq_getElem (by omega)⟩
      have e1 : dgW L (some l) x (i + 1) = dgW L (some l) x i + (if some l = some i then 0 else din x e) := by
        unfold dgW
        rw [sum_range_succ, hg]
      rw [e1, ih (by omega), List.take_succ, hg, Option.toList_some]
      have hlen : (L.take i).length = i := by rw [List.length_take]; omega
      by_cases c : l = i
      · subst c
        rw [if_pos rfl, List.eraseIdx_append_of_length_le (by omega), hlen, Nat.sub_self, List.eraseIdx_of_length_le (by omega)]
        simp
      · rw [if_neg (fun q => c (Option.some.inj q))]
        by_cases c2 : l < i
        · rw [List.eraseIdx_append_of_lt_length (by omega), List.map_append, List.sum_append]
          simp
        · have q1 : (L.take i ++ [e]).eraseIdx l = L.take i ++ [e] := List.eraseIdx_of_length_le (by rw [List.length_append, hlen]; simp; omega)
          have q2 : (L.take i).eraseIdx l = L.take i := List.eraseIdx_of_length_le (by omega)
          rw [q1, q2, List.map_append, List.sum_append]
          simp
  rw [key _ (Nat.le_refl _), List.take_length]
  rfl
/-- sums over sets, by the list -/
def ss (F : List (Nat × Nat × Nat) → Nat) : List (Nat × Nat × Nat) → Nat
  | [] => F []
  | e :: L => ss F L + ss (fun S => F (e :: S)) L
theorem sum_double (f : Nat → Nat) (m : Nat) : ((List.range (2 * m)).map f).sum = ((List.range m).map (fun q => f (2 * q) + f (2 * q + 1))).sum := by
  induction m with
  | zero => rfl
  | succ m ih =>
    rw [show 2 * (m + 1) = 2 * m + 1 + 1 by omega, sum_range_succ, sum_range_succ, sum_range_succ, ih]
    omega
theorem sum_add (f g : Nat → Nat) (m : Nat) : ((List.range m).map (fun q => f q + g q)).sum = ((List.range m).map f).sum + ((List.range m).map g).sum := by
  induction m with
  | zero => rfl
  | succ m ih =>
    rw [sum_range_succ, sum_range_succ, sum_range_succ, ih]
    omega
theorem sset_ss : ∀ (L : List (Nat × Nat × Nat)) (F : List (Nat × Nat × Nat) → Nat), sset (fun s => F (sub L s)) L.length = ss F L
  | [], F => by simp [sset, ss, sub]
  | e :: L, F => by
    unfold sset
    rw [List.length_cons, Nat.pow_succ, Nat.mul_comm, sum_double]
    have e1 : (fun q => F (sub (e :: L) (2 * q)) + F (sub (e :: L) (2 * q + 1))) = fun q => F (sub L q) + F (e :: sub L q) := by
      funext q
      simp only [sub]
      rw [if_neg (by omega), if_pos (by omega), show 2 * q / 2 = q by omega, show (2 * q + 1) / 2 = q by omega]
    rw [e1, sum_add]
    have h1 := sset_ss L F
    have h2 := sset_ss L (fun S => F (e :: S))
    unfold sset at h1 h2
    rw [h1, h2]
    rfl
theorem sset_ss_wo : ∀ (L : List (Nat × Nat × Nat)) (l : Nat) (F : List (Nat × Nat × Nat) → Nat), l < L.length → sset (fun s => if wo (some l) s = true then F (sub L s) else 0) L.length = ss F (L.eraseIdx l)
  | [], _, _, h => by simp at h
  | e :: L, 0, F, _ => by
    unfold sset
    rw [List.length_cons, Nat.pow_succ, Nat.mul_comm, sum_double]
    have e1 : (fun q => (if wo (some 0) (2 * q) = true then F (sub (e :: L) (2 * q)) else 0) + (if wo (some 0) (2 * q + 1) = true then F (sub (e :: L) (2 * q + 1)) else 0)) = fun q => F (sub L q) := by
      funext q
      have a1 : wo (some 0) (2 * q) = true := by simp [wo]
      have a2 : wo (some 0) (2 * q + 1) = false := by simp [wo]
      rw [if_pos a1, a2, if_neg (by decide), Nat.add_zero]
      simp only [sub]
      rw [if_neg (by omega), show 2 * q / 2 = q by omega]
    rw [e1]
    have h1 := sset_ss L F
    unfold sset at h1
    rw [h1, List.eraseIdx_cons_zero]
  | e :: L, l + 1, F, h => by
    unfold sset
    rw [List.length_cons, Nat.pow_succ, Nat.mul_comm, sum_double]
    have e1 : (fun q => (if wo (some (l + 1)) (2 * q) = true then F (sub (e :: L) (2 * q)) else 0) + (if wo (some (l + 1)) (2 * q + 1) = true then F (sub (e :: L) (2 * q + 1)) else 0)) = fun q => (if wo (some l) q = true then F (sub L q) else 0) + (if wo (some l) q = true then F (e :: sub L q) else 0) := by
      funext q
      have a1 : wo (some (l + 1)) (2 * q) = wo (some l) q := by
        simp only [wo]
        rw [← div_pow_succ, show 2 * q / 2 = q by omega]
      have a2 : wo (some (l + 1)) (2 * q + 1) = wo (some l) q := by
        simp only [wo]
        rw [← div_pow_succ, show (2 * q + 1) / 2 = q by omega]
      rw [a1, a2]
      simp only [sub]
      rw [if_neg (show ¬ 2 * q % 2 = 1 by omega), if_pos (show (2 * q + 1) % 2 = 1 by omega), show 2 * q / 2 = q by omega, show (2 * q + 1) / 2 = q by omega]
    rw [e1, sum_add]
    have h1 := sset_ss_wo L l F (by simpa using h)
    have h2 := sset_ss_wo L l (fun S => F (e :: S)) (by simpa using h)
    unfold sset at h1 h2
    rw [h1, h2, List.eraseIdx_cons_succ]
    rfl
/-- the list of lines that a call looks at -/
def Lx (L : List (Nat × Nat × Nat)) (l : Option Nat) : List (Nat × Nat × Nat) := match l with
  | none => L
  | some l => L.eraseIdx l
theorem sset_Lx (L : List (Nat × Nat × Nat)) (l : Option Nat) (F : List (Nat × Nat × Nat) → Nat) (hl : ∀ k, l = some k → k < L.length) : sset (fun s => if wo l s = true then F (sub L s) else 0) L.length = ss F (Lx L l) := by
  cases l with
  | none =>
    have : (fun s => if wo none s = true then F (sub L s) else 0) = fun s => F (sub L s) := by
      funext s
      rw [if_pos (show wo none s = true from rfl)]
    rw [this, sset_ss]
    rfl
  | some k => exact sset_ss_wo L k F (hl k rfl)
theorem dgW_Lx (L : List (Nat × Nat × Nat)) (l : Option Nat) (x : Nat) (hl : ∀ k, l = some k → k < L.length) : dgW L l x L.length = dgL (Lx L l) x := by
  cases l with
  | none => exact dgW_none L x
  | some k => exact dgW_some L x k (hl k rfl)
