/-! steps and apart in the reference -/
def ind (b : Bool) (x : Nat) : Nat := if b = true then x else 0
/-- widths at the nodes of u's part -/
def dsum (n : Nat) (d : Nat → Nat) (p : Nat → Nat) (u : Nat) : Nat := ((List.range n).map (fun x => if p x = p u then d x else 0)).sum
def sT (n : Nat) (d : Nat → Nat) (u v : Nat) (S : List (Nat × Nat × Nat)) : Nat := if fok n 2 S = true ∧ (fo S).2 u ≠ (fo S).2 v then dsum n d (fo S).2 u * wt S else 0
theorem steps_in {σ : Sg} {n u : Nat} {b : Int32} {L : List (Nat × Nat × Nat)} {l : Option Nat} {p : Nat → Nat} (h : RowAt σ 0 L) (hl : L.length ≤ 10) (hb : ∀ e ∈ L, e.1 < 6 ∧ e.2.1 < 6) (h9 : ∀ e ∈ L, e.2.2 ≤ 9) (h17 : gI σ 17 = nI n) (h6 : n ≤ 6) (hu : u < n) (hp : PartAt σ p) (hlo : ∀ k, l = some k → k < 10) (hd : ∀ x, dgW L l x L.length < 2 ^ 31) : wl (fun a : Int64 × Int32 => f_X7_steps_B49 (nI u) (wI l) (b, σ) a.1 a.2) FU ((0 : Int64), (0 : Int32)) = some (lN (dsum n (fun x => dgW L l x L.length) p u)) := by
  have key := wl_run (body := fun a : Int64 × Int32 => f_X7_steps_B49 (nI u) (wI l) (b, σ) a.1 a.2) (fun i => (lN (((List.range i).map (fun x => if p x = p u then dgW L l x L.length else 0)).sum), nI i)) n (b := lN (dsum n (fun x => dgW L l x L.length) p u)) (fun i hi => ?_) ?_ FU (FU_big (by omega))
  · exact key
  · dsimp only
    unfold f_X7_steps_B49
    dsimp only
    have q1 := hp i (by omega)
    have q2 := hp u (by omega)
    rw [h17, if_neg (nI_ge hi (by omega)), gd_h (okI_nI (by omega) (by omega)), gd_h (okI_nI (by omega) (by omega)), nI_clamp (by omega), nI_clamp (by omega), q1.1, q2.1, sum_range_succ (fun x => if p x = p u then dgW L l x L.length else 0)]
    by_cases c : p i = p u
    · rw [if_pos (by rw [c]), f_mdegree_yes h hl hb (by omega) hlo, Option.bind_some, nI_64 (hd i), vl_e, vl_e, lN_add, nI_1, if_pos c]
    · rw [if_neg (by rw [nI_eq (by omega) (by omega)]; exact c), vl_e, vl_e, nI_1, show (0 : Int64) = lN 0 from rfl, lN_add, if_neg c]
  · dsimp only
    unfold f_X7_steps_B49
    dsimp only
    rw [h17, if_pos (nI_le (Nat.le_refl _) (by omega))]
    rfl
theorem din_le {x : Nat} {e : Nat × Nat × Nat} (h : e.2.2 ≤ 9) : din x e ≤ 9 := by
  unfold din
  split <;> omega
theorem dgW_le {L : List (Nat × Nat × Nat)} {l : Option Nat} {x : Nat} (h9 : ∀ e ∈ L, e.2.2 ≤ 9) : ∀ i, dgW L l x i ≤ 9 * i := by
  intro i
  induction i with
  | zero => exact Nat.le_refl _
  | succ i ih =>
    unfold dgW at ih ⊢
    rw [sum_range_succ]
    refine Nat.le_trans (Nat.add_le_add ih (?_ : _ ≤ 9)) (by omega)
    split
    · omega
    · split
      · rename_i e he
        exact din_le (h9 e (List.mem_of_getElem? he))
      · omega
theorem f_steps_yes {σ : Sg} {n u v : Nat} {L : List (Nat × Nat × Nat)} {l : Option Nat} (h : RowAt σ 0 L) (hl : L.length ≤ 10) (hb : ∀ e ∈ L, e.1 < 6 ∧ e.2.1 < 6) (h9 : ∀ e ∈ L, e.2.2 ≤ 9) (h17 : gI σ 17 = nI n) (h2 : 2 ≤ n) (h6 : n ≤ 6) (hu : u < n) (hv : v < n) (hlo : ∀ k, l = some k → k < L.length) : ∃ σ', f_X7_steps σ (nI u) (nI v) (wI l) = some (lN (ss (sT n (dgL (Lx L l)) u v) (Lx L l)), σ') ∧ Fr [] [51] [] σ σ' := by
  have h10 := pow10 hl
  have hlo10 : ∀ k, l = some k → k < 10 := fun k q => by have := hlo k q; omega
  have hd : (fun x => dgW L l x L.length) = dgL (Lx L l) := funext fun x => dgW_Lx L l x hlo
  have hd31 : ∀ x, dgW L l x L.length < 2 ^ 31 := fun x => by have := dgW_le (l := l) (x := x) h9 L.length; omega
  rw [← sset_Lx L l (sT n (dgL (Lx L l)) u v) hlo]
  unfold f_X7_steps
  have key := wl_inv (body := fun a : Int64 × Int32 × Sg => f_X7_steps_B6 (nI u) (nI v) (wI l) a.1 a.2.1 a.2.2) (N := 2 ^ L.length) (I := fun i (a : Int64 × Int32 × Sg) => a.1 = lN (((List.range i).map (fun s => if wo l s = true then sT n (dgL (Lx L l)) u v (sub L s) else 0)).sum) ∧ a.2.1 = nI i ∧ Fr [] [51] [] σ a.2.2) (Post := fun b : Int64 × Sg => b.1 = lN (sset (fun s => if wo l s = true then sT n (dgL (Lx L l)) u v (sub L s) else 0) L.length) ∧ Fr [] [51] [] σ b.2) (fun i a hi hI => ?_) FU 0 ((0 : Int64), (0 : Int32), σ) ⟨rfl, rfl, Fr.rf⟩ (Nat.zero_le _) (FU_big (by omega))
  · obtain ⟨⟨x, σ'⟩, k1, k2, k3⟩ := key
    dsimp only at k2 k3
    subst k2
    rw [k1]
    exact ⟨σ', rfl, k3⟩
  · obtain ⟨x, y, σ1⟩ := a
    obtain ⟨hx, hy, hF⟩ := hI
    dsimp only at hx hy hF ⊢
    subst hy
    have hr1 : RowAt σ1 0 L := frow hF (by simp) h
    have h171 : gI σ1 17 = nI n := (hF.1 17 (by simp)).trans h17
    by_cases he : i = 2 ^ L.length
    · subst he
      refine ⟨.inr (x, σ1), ?_, Or.inr ⟨(x, σ1), rfl, hx, hF⟩⟩
      unfold f_X7_steps_B6
      rw [f_lines_yes hr1, Option.bind_some, sh_1 _ (by omega), if_pos (nI_le (Nat.le_refl _) (by omega))]
    · have hlt : i < 2 ^ L.length := by omega
      obtain ⟨σ2, f1, f2, f3⟩ := f_isForest_yes (many := 2) (s := i) hr1 hl hb h171 h6 (by omega) hlt hlo10
      have hr2 : RowAt σ2 0 L := frow f2 (by simp) hr1
      have h172 : gI σ2 17 = nI n := (f2.1 17 (by simp)).trans h171
      have hsum := sum_range_succ (fun s => if wo l s = true then sT n (dgL (Lx L l)) u v (sub L s) else 0) i
      have go : ∀ val : Nat, f_X7_steps_B6 (nI u) (nI v) (wI l) x (nI i) σ1 = some (.inl (x + lN val, nI (i + 1), σ2)) → (if wo l i = true then sT n (dgL (Lx L l)) u v (sub L i) else 0) = val → ∃ r, f_X7_steps_B6 (nI u) (nI v) (wI l) x (nI i) σ1 = some r ∧ ((∃ a', r = .inl a' ∧ i < 2 ^ L.length ∧ (a'.1 = lN (((List.range (i + 1)).map (fun s => if wo l s = true then sT n (dgL (Lx L l)) u v (sub L s) else 0)).sum) ∧ a'.2.1 = nI (i + 1) ∧ Fr [] [51] [] σ a'.2.2)) ∨ ∃ b, r = .inr b ∧ (b.1 = lN (sset (fun s => if wo l s = true then sT n (dgL (Lx L l)) u v (sub L s) else 0) L.length) ∧ Fr [] [51] [] σ b.2)) := by
        intro val e1 e2
        refine ⟨_, e1, Or.inl ⟨_, rfl, hlt, ?_, rfl, hF.tr f2⟩⟩
        dsimp only
        rw [hsum, hx, lN_add, e2]
      have lx0 : x + lN 0 = x := by rw [hx, lN_add, Nat.add_zero]
      by_cases cf : (fok n 2 (sub L i) && wo l i) = true
      · obtain ⟨c1, c2⟩ := (Bool.and_eq_true _ _).mp cf
        have hp := f3 cf
        have pu := hp u (by omega)
        have pv := hp v (by omega)
        by_cases cuv : (fo (sub L i)).2 u = (fo (sub L i)).2 v
        · refine go 0 ?_ ?_
          · unfold f_X7_steps_B6
            rw [f_lines_yes hr1, Option.bind_some, sh_1 _ (by omega), if_neg (nI_ge hlt (by omega)), il_2, f1, Option.bind_some]
            dsimp only
            rw [cf, if_neg (by decide), gd_h (okI_nI (by omega) (by omega)), gd_h (okI_nI (by omega) (by omega)), nI_clamp (by omega), nI_clamp (by omega), pu.1, pv.1, if_pos (by rw [cuv]), vl_e, nI_1, lx0]
          · rw [if_pos c2]
            unfold sT
            rw [if_neg (fun q => q.2 cuv)]
        · refine go (dsum n (dgL (Lx L l)) (fo (sub L i)).2 u * wt (sub L i)) ?_ ?_
          · unfold f_X7_steps_B6
            rw [f_lines_yes hr1, Option.bind_some, sh_1 _ (by omega), if_neg (nI_ge hlt (by omega)), il_2, f1, Option.bind_some]
            dsimp only
            rw [cf, if_neg (by decide), gd_h (okI_nI (by omega) (by omega)), gd_h (okI_nI (by omega) (by omega)), nI_clamp (by omega), nI_clamp (by omega), pu.1, pv.1, if_neg (by rw [nI_eq (by omega) (by omega)]; exact cuv), steps_in hr2 hl hb h9 h172 h6 hu hp hlo10 hd31, Option.bind_some, f_weight_yes hr2 hl h9 (by omega), Option.bind_some, vl_e, vl_e, nI_1, lN_mul, hd]
          · rw [if_pos c2]
            unfold sT
            rw [if_pos ⟨c1, cuv⟩]
      · have cf2 : (fok n 2 (sub L i) && wo l i) = false := by simpa using cf
        refine go 0 ?_ ?_
        · unfold f_X7_steps_B6
          rw [f_lines_yes hr1, Option.bind_some, sh_1 _ (by omega), if_neg (nI_ge hlt (by omega)), il_2, f1, Option.bind_some]
          dsimp only
          rw [cf2, if_pos (by decide), vl_e, nI_1, lx0]
        · by_cases c1 : wo l i = true
          · rw [if_pos c1]
            unfold sT
            rw [c1, Bool.and_true] at cf2
            rw [cf2, if_neg (fun q => by simp at q)]
          · rw [if_neg c1]
/-- apart: u none, all -/
def aT (n : Nat) (u : Option Nat) (a b : Nat) (S : List (Nat × Nat × Nat)) : Nat := if fok n 2 S = true ∧ (fo S).2 a ≠ (fo S).2 b ∧ (∀ x, u = some x → (fo S).2 x = (fo S).2 a) then wt S else 0
theorem f_apart_yes {σ : Sg} {n a b : Nat} {u : Option Nat} {L : List (Nat × Nat × Nat)} (h : RowAt σ 0 L) (hl : L.length ≤ 10) (hb : ∀ e ∈ L, e.1 < 6 ∧ e.2.1 < 6) (h9 : ∀ e ∈ L, e.2.2 ≤ 9) (h17 : gI σ 17 = nI n) (h2 : 2 ≤ n) (h6 : n ≤ 6) (ha : a < n) (hbn : b < n) (hu : ∀ x, u = some x → x < n) : ∃ σ', f_X7_apart σ (wI u) (nI a) (nI b) = some (lN (ss (aT n u a b) L), σ') ∧ Fr [] [51] [] σ σ' := by
  have h10 := pow10 hl
  rw [← sset_ss L (aT n u a b)]
  unfold f_X7_apart
  have key := wl_inv (body := fun q : Int64 × Int32 × Sg => f_X7_apart_B6 (wI u) (nI a) (nI b) q.1 q.2.1 q.2.2) (N := 2 ^ L.length) (I := fun i (q : Int64 × Int32 × Sg) => q.1 = lN (((List.range i).map (fun s => aT n u a b (sub L s))).sum) ∧ q.2.1 = nI i ∧ Fr [] [51] [] σ q.2.2) (Post := fun q : Int64 × Sg => q.1 = lN (sset (fun s => aT n u a b (sub L s)) L.length) ∧ Fr [] [51] [] σ q.2) (fun i q hi hI => ?_) FU 0 ((0 : Int64), (0 : Int32), σ) ⟨rfl, rfl, Fr.rf⟩ (Nat.zero_le _) (FU_big (by omega))
  · obtain ⟨⟨x, σ'⟩, k1, k2, k3⟩ := key
    dsimp only at k2 k3
    subst k2
    rw [k1]
    exact ⟨σ', rfl, k3⟩
  · obtain ⟨x, y, σ1⟩ := q
    obtain ⟨hx, hy, hF⟩ := hI
    dsimp only at hx hy hF ⊢
    subst hy
    have hr1 : RowAt σ1 0 L := frow hF (by simp) h
    have h171 : gI σ1 17 = nI n := (hF.1 17 (by simp)).trans h17
    by_cases he : i = 2 ^ L.length
    · subst he
      refine ⟨.inr (x, σ1), ?_, Or.inr ⟨(x, σ1), rfl, hx, hF⟩⟩
      unfold f_X7_apart_B6
      rw [f_lines_yes hr1, Option.bind_some, sh_1 _ (by omega), if_pos (nI_le (Nat.le_refl _) (by omega))]
    · have hlt : i < 2 ^ L.length := by omega
      obtain ⟨σ2, f1, f2, f3⟩ := f_isForest_yes (many := 2) (s := i) (l := none) hr1 hl hb h171 h6 (by omega) hlt (fun k q => by cases q)
      rw [show (fok n 2 (sub L i) && wo none i) = fok n 2 (sub L i) by rw [show wo none i = true from rfl, Bool.and_true]] at f1 f3
      have hr2 : RowAt σ2 0 L := frow f2 (by simp) hr1
      have hsum := sum_range_succ (fun s => aT n u a b (sub L s)) i
      have go : ∀ val : Nat, f_X7_apart_B6 (wI u) (nI a) (nI b) x (nI i) σ1 = some (.inl (x + lN val, nI (i + 1), σ2)) → aT n u a b (sub L i) = val → ∃ r, f_X7_apart_B6 (wI u) (nI a) (nI b) x (nI i) σ1 = some r ∧ ((∃ a', r = .inl a' ∧ i < 2 ^ L.length ∧ (a'.1 = lN (((List.range (i + 1)).map (fun s => aT n u a b (sub L s))).sum) ∧ a'.2.1 = nI (i + 1) ∧ Fr [] [51] [] σ a'.2.2)) ∨ ∃ q, r = .inr q ∧ (q.1 = lN (sset (fun s => aT n u a b (sub L s)) L.length) ∧ Fr [] [51] [] σ q.2)) := by
        intro val e1 e2
        refine ⟨_, e1, Or.inl ⟨_, rfl, hlt, ?_, rfl, hF.tr f2⟩⟩
        dsimp only
        rw [hsum, hx, lN_add, e2]
      have hJ86 : ∀ z : Int32, f_X7_apart_J86 x (nI i) (z, σ2) = some (.inl (x + lN 0, nI (i + 1), σ2)) := fun z => by
        unfold f_X7_apart_J86
        rw [vl_e, vl_e, nI_1]
        rfl
      have hJ77 : ∀ z : Int32, f_X7_apart_J77 x (nI i) (z, σ2) = some (.inl (x + lN (wt (sub L i)), nI (i + 1), σ2)) := fun z => by
        unfold f_X7_apart_J77
        dsimp only
        rw [f_weight_yes hr2 hl h9 (by omega), Option.bind_some, vl_e, vl_e, nI_1]
      have hJ48 : ∀ z : Int32, f_X7_apart_J48 (wI u) (nI a) x (nI i) (z, σ2) = some (.inl (x + lN 0, nI (i + 1), σ2)) := fun z => by
        unfold f_X7_apart_J48 f_X7_apart_J49
        rw [if_pos rfl, hJ86]
      by_cases cf : fok n 2 (sub L i) = true
      · have hp := f3 cf
        have pa := hp a (by omega)
        have pb := hp b (by omega)
        by_cases cab : (fo (sub L i)).2 a = (fo (sub L i)).2 b
        · refine go 0 ?_ ?_
          · unfold f_X7_apart_B6
            rw [f_lines_yes hr1, Option.bind_some, sh_1 _ (by omega), if_neg (nI_ge hlt (by omega)), il_2, show (-9 : Int32) = wI none from rfl, f1, Option.bind_some]
            dsimp only
            rw [cf, if_neg (by decide), gd_h (okI_nI (by omega) (by omega)), gd_h (okI_nI (by omega) (by omega)), nI_clamp (by omega), nI_clamp (by omega), pa.1, pb.1, if_pos (by rw [cab]), hJ48]
          · unfold aT
            rw [if_neg (fun q => q.2.1 cab)]
        · have hb0 : f_X7_apart_B6 (wI u) (nI a) (nI b) x (nI i) σ1 = f_X7_apart_J49 (wI u) (nI a) x (nI i) (bI true, σ2) 1 := by
            unfold f_X7_apart_B6
            rw [f_lines_yes hr1, Option.bind_some, sh_1 _ (by omega), if_neg (nI_ge hlt (by omega)), il_2, show (-9 : Int32) = wI none from rfl, f1, Option.bind_some]
            dsimp only
            rw [cf, if_neg (by decide), gd_h (okI_nI (by omega) (by omega)), gd_h (okI_nI (by omega) (by omega)), nI_clamp (by omega), nI_clamp (by omega), pa.1, pb.1, if_neg (by rw [nI_eq (by omega) (by omega)]; exact cab)]
          cases u with
          | none =>
            refine go (wt (sub L i)) ?_ ?_
            · rw [hb0]
              unfold f_X7_apart_J49
              rw [if_neg ne10, if_pos (by decide), hJ77]
            · unfold aT
              rw [if_pos ⟨cf, cab, fun x q => by cases q⟩]
          | some u =>
            have hun := hu u rfl
            have pu := hp u (by omega)
            by_cases cu : (fo (sub L i)).2 u = (fo (sub L i)).2 a
            · refine go (wt (sub L i)) ?_ ?_
              · rw [hb0]
                unfold f_X7_apart_J49
                dsimp only
                rw [if_neg ne10, wI_some, if_neg (nI_pos (by omega)), gd_h (okI_nI (by omega) (by omega)), gd_h (okI_nI (by omega) (by omega)), nI_clamp (by omega), nI_clamp (by omega), pa.1, pu.1, if_pos (by rw [cu]), hJ77]
              · unfold aT
                rw [if_pos ⟨cf, cab, fun x q => by cases q; exact cu⟩]
            · refine go 0 ?_ ?_
              · rw [hb0]
                unfold f_X7_apart_J49
                dsimp only
                rw [if_neg ne10, wI_some, if_neg (nI_pos (by omega)), gd_h (okI_nI (by omega) (by omega)), gd_h (okI_nI (by omega) (by omega)), nI_clamp (by omega), nI_clamp (by omega), pa.1, pu.1, if_neg (by rw [nI_eq (by omega) (by omega)]; exact cu), hJ86]
              · unfold aT
                rw [if_neg (fun q => cu (q.2.2 u rfl))]
      · have cf2 : fok n 2 (sub L i) = false := by simpa using cf
        refine go 0 ?_ ?_
        · unfold f_X7_apart_B6
          rw [f_lines_yes hr1, Option.bind_some, sh_1 _ (by omega), if_neg (nI_ge hlt (by omega)), il_2, show (-9 : Int32) = wI none from rfl, f1, Option.bind_some]
          dsimp only
          rw [cf2, if_pos (by decide), hJ48]
        · unfold aT
          rw [if_neg (fun q => cf q.1)]
