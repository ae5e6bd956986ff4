/-- all nodes of one part -/
def tog (n : Nat) (p : Nat → Nat) : Bool := (List.range n).all (fun x => p x == p 0)
theorem f_isTogether_yes {σ : Sg} {n : Nat} {p : Nat → Nat} (h17 : gI σ 17 = nI n) (h2 : 2 ≤ n) (h6 : n ≤ 6) (hp : PartAt σ p) : f_X7_isTogether σ = some (bI (tog n p)) := by
  unfold f_X7_isTogether
  have key := wl_run (body := fun a : Int32 × Int32 => f_X7_isTogether_B4 σ a.1 a.2) (fun i => (bI ((List.range (i + 1)).all (fun x => p x == p 0)), nI (i + 1))) (n - 1) (b := bI (tog n p)) (fun i hi => ?_) ?_ FU (FU_big (by omega))
  · have e0 : ((1 : Int32), (1 : Int32)) = (bI ((List.range (0 + 1)).all (fun x => p x == p 0)), nI (0 + 1)) := by
      have : (List.range (0 + 1)).all (fun x => p x == p 0) = true := by simp
      rw [this]
      rfl
    rw [e0, key, Option.bind_some, gd_h (bI_ok _)]
  · dsimp only
    unfold f_X7_isTogether_B4
    rw [h17, if_neg (nI_ge (show i + 1 < n by omega) (by omega))]
    have e1 : (List.range (i + 1 + 1)).all (fun x => p x == p 0) = ((List.range (i + 1)).all (fun x => p x == p 0) && (p (i + 1) == p 0)) := by
      rw [List.range_succ, List.all_append]
      simp
    rw [e1]
    generalize (List.range (i + 1)).all (fun x => p x == p 0) = b
    cases b
    · rw [if_pos (show bI false = 0 from rfl), vl_e, nI_1]
      rfl
    · rw [if_neg (by decide), gd_h (okI_nI (show i + 1 < 6 by omega) (by omega)), gd_h (by decide), nI_clamp (by omega), c0, (hp (i + 1) (by omega)).1, (hp 0 (by omega)).1, vl_e, vl_e, nI_1]
      have q1 := (hp (i + 1) (by omega)).2
      have q2 := (hp 0 (by omega)).2
      by_cases c : p (i + 1) = p 0
      · rw [if_pos (by rw [c]), c]
        simp [bI]
      · rw [if_neg (by rw [nI_eq (by omega) (by omega)]; exact c)]
        simp [bI, c]
  · dsimp only
    unfold f_X7_isTogether_B4
    rw [h17, show n - 1 + 1 = n by omega, if_pos (nI_le (Nat.le_refl _) (by omega))]
    rfl
theorem L_b9 {n : Nat} {w : Nat → Nat → Nat} (hw : wok n w) : ∀ e ∈ Ln n w, e.2.2 ≤ 9 := fun e he => by
  have := mem_Ln.mp he
  have := hw.2.2.2.2.1 e.1 e.2.1
  omega
theorem pow10 {m : Nat} (h : m ≤ 10) : 2 ^ m ≤ 1024 := by
  have := Nat.pow_le_pow_right (show 0 < 2 by omega) h
  simpa using this
/-- whether a set is a forest of so many parts -/
def fok (n many : Nat) (S : List (Nat × Nat × Nat)) : Bool := (S.length + many == n) && (fo S).1
/-- a set without a line -/
def wo (l : Option Nat) (s : Nat) : Bool := match l with
  | none => true
  | some l => s / 2 ^ l % 2 == 0
def wI (l : Option Nat) : Int32 := match l with
  | none => -9
  | some l => nI l
theorem wI_none : wI none = -9 := rfl
theorem wI_some (l : Nat) : wI (some l) = nI l := rfl
theorem f_isForest_yes {σ : Sg} {n many s : Nat} {L : List (Nat × Nat × Nat)} {l : Option Nat} (h : RowAt σ 0 L) (hl : L.length ≤ 10) (hb : ∀ e ∈ L, e.1 < 6 ∧ e.2.1 < 6) (h17 : gI σ 17 = nI n) (h6 : n ≤ 6) (hm : many ≤ n) (hs : s < 2 ^ L.length) (hlo : ∀ k, l = some k → k < 10) : ∃ σ', f_X7_isForest σ (nI s) (nI many) (wI l) = some (bI (fok n many (sub L s) && wo l s), σ') ∧ Fr [] [51] [] σ σ' ∧ ((fok n many (sub L s) && wo l s) = true → PartAt σ' (fo (sub L s)).2) := by
  have h10 := pow10 hl
  have hc : cnt s = (sub L s).length := cnt_sub L 10 s hl hs
  have hsl : (sub L s).length ≤ 10 := by
    rw [← hc]
    unfold cnt
    simp only [List.range_succ, List.range_zero, List.nil_append, List.map_append, List.map_cons, List.map_nil, List.sum_append, List.sum_cons, List.sum_nil]
    omega
  unfold f_X7_isForest
  rw [f_ones_yes (by omega), Option.bind_some, h17, pk_sub hm, hc]
  have e1 : ((sub L s).length + many == n) = decide ((sub L s).length = n - many) := by
    rw [Bool.eq_iff_iff]
    simp
    omega
  by_cases c : (sub L s).length = n - many
  · rw [if_pos (by rw [c])]
    obtain ⟨σ', p1, p2, p3⟩ := f_parts_yes (s := s) h hl hb (by omega)
    have hJ : f_X7_isForest_J27 σ (nI s) = some (bI (fo (sub L s)).1, σ') := by
      unfold f_X7_isForest_J27
      rw [p1, Option.bind_some]
      dsimp only
      cases (fo (sub L s)).1 <;> rfl
    have ef : fok n many (sub L s) = (fo (sub L s)).1 := by
      unfold fok
      rw [e1, decide_eq_true c, Bool.true_and]
    rw [ef]
    cases l with
    | none =>
      rw [wI_none, if_pos rfl, hJ]
      exact ⟨σ', by rw [show wo none s = true from rfl, Bool.and_true], p2, fun _ => p3⟩
    | some k =>
      have hk := hlo k rfl
      rw [wI_some, if_neg (nI_m9 (by omega)), bit_at (by omega) (by omega)]
      by_cases cb : s / 2 ^ k % 2 = 0
      · rw [if_pos (by rw [cb]; rfl), hJ]
        refine ⟨σ', ?_, p2, fun _ => p3⟩
        rw [show wo (some k) s = true by simp [wo, cb], Bool.and_true]
      · have cb1 : s / 2 ^ k % 2 = 1 := by omega
        rw [if_neg (by rw [cb1]; decide)]
        have : wo (some k) s = false := by simp [wo, cb1]
        refine ⟨σ, ?_, Fr.rf, fun q => ?_⟩
        · rw [this, Bool.and_false]
          rfl
        · rw [this, Bool.and_false] at q
          cases q
  · rw [if_neg (by rw [nI_eq (by omega) (by omega)]; exact c)]
    have : fok n many (sub L s) = false := by
      unfold fok
      rw [e1, decide_eq_false c, Bool.false_and]
    refine ⟨σ, ?_, Fr.rf, fun q => ?_⟩
    · rw [this, Bool.false_and]
      rfl
    · rw [this, Bool.false_and] at q
      cases q
/-- sums over all sets -/
def sset (F : Nat → Nat) (m : Nat) : Nat := ((List.range (2 ^ m)).map F).sum
def tT (n : Nat) (S : List (Nat × Nat × Nat)) : Nat := if fok n 1 S = true then wt S else 0
theorem f_treesBut_yes {σ : Sg} {n : Nat} {L : List (Nat × Nat × Nat)} {l : Option Nat} (h : RowAt σ 0 L) (hl : L.length ≤ 10) (hb : ∀ e ∈ L, e.1 < 6 ∧ e.2.1 < 6) (h9 : ∀ e ∈ L, e.2.2 ≤ 9) (h17 : gI σ 17 = nI n) (h2 : 2 ≤ n) (h6 : n ≤ 6) (hlo : ∀ k, l = some k → k < 10) : ∃ σ', f_X7_treesBut σ (wI l) = some (lN (sset (fun s => if wo l s = true then tT n (sub L s) else 0) L.length), σ') ∧ Fr [] [51] [] σ σ' := by
  have h10 := pow10 hl
  unfold f_X7_treesBut
  have key := wl_inv (body := fun a : Int64 × Int32 × Sg => f_X7_treesBut_B5 (wI l) a.1 a.2.1 a.2.2) (N := 2 ^ L.length) (I := fun i (a : Int64 × Int32 × Sg) => a.1 = lN (((List.range i).map (fun s => if wo l s = true then tT n (sub L s) else 0)).sum) ∧ a.2.1 = nI i ∧ Fr [] [51] [] σ a.2.2) (Post := fun b : Int64 × Sg => b.1 = lN (sset (fun s => if wo l s = true then tT n (sub L s) else 0) L.length) ∧ Fr [] [51] [] σ b.2) (fun i a hi hI => ?_) FU 0 ((0 : Int64), (0 : Int32), σ) ⟨rfl, rfl, Fr.rf⟩ (Nat.zero_le _) (FU_big (by omega))
  · obtain ⟨⟨x, σ'⟩, k1, k2, k3⟩ := key
    dsimp only at k2 k3
    subst k2
    rw [k1]
    exact ⟨σ', rfl, k3⟩
  · obtain ⟨x, y, σ1⟩ := a
    obtain ⟨hx, hy, hF⟩ := hI
    dsimp only at hx hy hF ⊢
    subst hx
    subst hy
    have hr1 : RowAt σ1 0 L := frow hF (by simp) h
    have h171 : gI σ1 17 = nI n := (hF.1 17 (by simp)).trans h17
    have e0 : f_X7_treesBut_B5 (wI l) (lN (((List.range i).map (fun s => if wo l s = true then tT n (sub L s) else 0)).sum)) (nI i) σ1 = (if nI (2 ^ L.length) ≤ nI i then some (.inr (lN (((List.range i).map (fun s => if wo l s = true then tT n (sub L s) else 0)).sum), σ1)) else (f_X7_isForest σ1 (nI i) (1 : Int32) (wI l)).bind (fun t6 => (if t6.1 = 0 then vl (lN (((List.range i).map (fun s => if wo l s = true then tT n (sub L s) else 0)).sum) + (0 : Int64)) (fun x8 => vl (nI i + (1 : Int32)) (fun x9 => some (.inl (x8, x9, t6.2)))) else (f_X7_weight t6.2 (nI i)).bind (fun t10 => vl (lN (((List.range i).map (fun s => if wo l s = true then tT n (sub L s) else 0)).sum) + t10) (fun x11 => vl (nI i + (1 : Int32)) (fun x12 => some (.inl (x11, x12, t6.2)))))))) := by
      unfold f_X7_treesBut_B5
      rw [f_lines_yes hr1, Option.bind_some, sh_1 _ (by omega)]
    rw [e0]
    by_cases he : i = 2 ^ L.length
    · subst he
      exact ⟨_, by rw [if_pos (nI_le (Nat.le_refl _) (by omega))], Or.inr ⟨_, rfl, rfl, hF⟩⟩
    · have hlt : i < 2 ^ L.length := by omega
      obtain ⟨σ2, f1, f2, f3⟩ := f_isForest_yes (many := 1) (s := i) hr1 hl hb h171 h6 (by omega) hlt hlo
      rw [if_neg (nI_ge hlt (by omega)), il_1, f1, Option.bind_some]
      dsimp only
      have hr2 : RowAt σ2 0 L := frow f2 (by simp) hr1
      have hsum := sum_range_succ (fun s => if wo l s = true then tT n (sub L s) else 0) i
      by_cases cf : (fok n 1 (sub L i) && wo l i) = true
      · rw [cf, if_neg (by decide), f_weight_yes hr2 hl h9 (by omega), Option.bind_some, vl_e, lN_add, vl_e, nI_add]
        refine ⟨_, rfl, Or.inl ⟨_, rfl, hlt, ?_, rfl, hF.tr f2⟩⟩
        dsimp only
        rw [hsum]
        obtain ⟨c1, c2⟩ := (Bool.and_eq_true _ _).mp cf
        rw [if_pos c2]
        unfold tT
        rw [if_pos c1]
      · have cf2 : (fok n 1 (sub L i) && wo l i) = false := by simpa using cf
        rw [cf2, if_pos (by decide), vl_e, vl_e, nI_add]
        refine ⟨_, rfl, Or.inl ⟨_, rfl, hlt, ?_, rfl, hF.tr f2⟩⟩
        dsimp only
        rw [hsum, show (0 : Int64) = lN 0 from rfl, lN_add]
        congr 2
        by_cases c1 : wo l i = true
        · rw [if_pos c1]
          unfold tT
          rw [if_neg]
          rw [c1, Bool.and_true] at cf2
          rw [cf2]
          decide
        · rw [if_neg c1]
