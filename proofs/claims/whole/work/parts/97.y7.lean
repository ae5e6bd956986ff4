/-! smaller nets: the reference begins -/
def wn (n : Nat) (w : Nat → Nat → Nat) : Nat → Nat → Nat := fun a b => if a < n ∧ b < n then w a b else 0
theorem r_zero {σ : Sg} {n : Nat} (h : gI σ 17 = nI n) : ∃ σ', wl (fun a : Int32 × Sg => f_X7_reduced_B53 a.1 a.2) FU ((0 : Int32), σ) = some σ' ∧ (FrQ σ σ' ∧ Sy σ' n (fun _ _ => 1) (fun _ _ => 0)) := by
  have key := wl_inv (body := fun a : Int32 × Sg => f_X7_reduced_B53 a.1 a.2) (N := 36) (I := fun i (a : Int32 × Sg) => a.1 = nI i ∧ FrQ σ a.2 ∧ ∀ x, x < i → gJ a.2 55 x = 0) (Post := fun b => FrQ σ b ∧ ∀ x, x < 36 → gJ b 55 x = 0) (fun i a hi hI => ?_) FU 0 ((0 : Int32), σ) ⟨rfl, Fr.rf, fun x hx => by omega⟩ (Nat.zero_le _) (FU_big (by omega))
  · obtain ⟨σ', k1, k2, k3⟩ := key
    exact ⟨σ', k1, k2, (k2.1 17 List.not_mem_nil).trans h, fun a b ha hb => ⟨k3 _ (by omega), fun q => absurd rfl q⟩⟩
  · obtain ⟨y, σ1⟩ := a
    obtain ⟨hy, hF, hA⟩ := hI
    dsimp only at hy hF hA ⊢
    subst hy
    unfold f_X7_reduced_B53
    rw [il_36]
    by_cases he : i = 36
    · subst he
      exact ⟨.inr σ1, by rw [if_pos (nI_le (Nat.le_refl _) (by omega))], Or.inr ⟨σ1, rfl, hF, hA⟩⟩
    · refine ⟨.inl (nI (i + 1), pJ σ1 55 i 0), ?_, Or.inl ⟨_, rfl, by omega, rfl, hF.tr (Fr.pJ (by simp)), fun x hx => ?_⟩⟩
      · rw [if_neg (nI_ge (show i < 36 by omega) (by omega)), gd_h (okI_nI (by omega) (by omega)), nI_clamp (by omega), vl_e, vl_e, nI_1]
      · dsimp only
        rw [gJ_pJ, if_pos rfl, updL_at]
        by_cases c : x = i
        · rw [if_pos c]
        · rw [if_neg c]
          exact hA x (by omega)
theorem Sy.cg2 {σ : Sg} {n : Nat} {U U' D D' : Nat → Nat → Nat} (h : Sy σ n U D) (e : ∀ a b, a < 6 → b < 6 → D a b = D' a b) (f : ∀ a b, a < 6 → b < 6 → D' a b ≠ 0 → U a b = U' a b) : Sy σ n U' D' := ⟨h.1, fun a b ha hb => ⟨by rw [← e a b ha hb]; exact (h.2 a b ha hb).1, fun q => by rw [← f a b ha hb q]; exact (h.2 a b ha hb).2 (by rw [e a b ha hb]; exact q)⟩⟩
theorem FrQ.cur {σ σ' : Sg} {n : Nat} {w : Nat → Nat → Nat} (h : Cur σ n w) (f : FrQ σ σ') : Cur σ' n w := ⟨h.1, h.2.1.cg (f.1 _ List.not_mem_nil) (f.1 _ List.not_mem_nil) (f.2.1 _ List.not_mem_nil) (f.2.1 _ List.not_mem_nil) (f.2.1 _ List.not_mem_nil), (f.1 _ List.not_mem_nil).trans h.2.2.1, h.2.2.2.cg (f.2.1 _ List.not_mem_nil)⟩
theorem r_load {σ : Sg} {n : Nat} {w : Nat → Nat → Nat} (hC : Cur σ n w) (h : Sy σ n (fun _ _ => 1) (fun _ _ => 0)) : ∃ σ', wl (fun a : Int32 × Sg => f_X7_reduced_B77 a.1 a.2) FU ((0 : Int32), σ) = some σ' ∧ (FrQ σ σ' ∧ Sy σ' n (fun _ _ => 1) (wn n w)) := by
  have cw := hC.1
  have hn := cw.2.1
  have hl := cw.2.2.2.2.2
  refine wl_inv (N := (Ln n w).length) (I := fun i (a : Int32 × Sg) => a.1 = nI i ∧ FrQ σ a.2 ∧ ∃ U D, Sy a.2 n U D ∧ (∀ e ∈ (Ln n w).take i, D e.1 e.2.1 = e.2.2 ∧ D e.2.1 e.1 = e.2.2 ∧ U e.1 e.2.1 = 1 ∧ U e.2.1 e.1 = 1) ∧ ∀ a b, D a b ≠ 0 → ∃ e ∈ (Ln n w).take i, (a = e.1 ∧ b = e.2.1) ∨ (a = e.2.1 ∧ b = e.1)) (fun i a hi hI => ?_) FU 0 ((0 : Int32), σ) ⟨rfl, Fr.rf, _, _, h, fun e he => by simp at he, fun a b q => absurd rfl q⟩ (Nat.zero_le _) (FU_big (by omega))
  obtain ⟨x, σ1⟩ := a
  obtain ⟨hx, hF, U, D, hS, hA, hB⟩ := hI
  dsimp only at hx hF hS ⊢
  subst hx
  have C1 := FrQ.cur hC hF
  by_cases he : i = (Ln n w).length
  · subst he
    rw [List.take_length] at hA hB
    have hin : ∀ a b, a < n → b < n → w a b ≠ 0 → D a b = w a b ∧ U a b = 1 := fun a b ha hb hw0 => by
      have hne : a ≠ b := fun q => hw0 (by rw [q]; exact cw.2.2.2.1 b)
      rcases Nat.lt_or_ge a b with q | q
      · obtain ⟨h1, h2, h3, h4⟩ := hA (a, b, w a b) (mem_Ln.mpr ⟨q, hb, rfl, hw0⟩)
        exact ⟨h1, h3⟩
      · obtain ⟨h1, h2, h3, h4⟩ := hA (b, a, w a b) (mem_Ln.mpr ⟨by dsimp only; omega, ha, cw.2.2.1 a b, hw0⟩)
        exact ⟨h2, h4⟩
    refine ⟨.inr σ1, ?_, Or.inr ⟨σ1, rfl, hF, hS.cg2 (fun a b _ _ => ?_) (fun a b _ _ q => ?_)⟩⟩
    · unfold f_X7_reduced_B77
      rw [f_lines_yes C1.2.2.2, Option.bind_some, if_pos (nI_le (Nat.le_refl _) (by omega))]
    · unfold wn
      by_cases c : (a < n ∧ b < n) ∧ w a b ≠ 0
      · rw [if_pos c.1]
        exact (hin a b c.1.1 c.1.2 c.2).1
      · have hz : D a b = 0 := Classical.byContradiction fun q => by
          obtain ⟨e, he, hab⟩ := hB a b q
          have hm := mem_Ln.mp he
          rcases hab with ⟨rfl, rfl⟩ | ⟨rfl, rfl⟩
          · exact c ⟨⟨by omega, hm.2.1⟩, by rw [← hm.2.2.1]; exact hm.2.2.2⟩
          · exact c ⟨⟨hm.2.1, by omega⟩, by rw [cw.2.2.1, ← hm.2.2.1]; exact hm.2.2.2⟩
        rw [hz]
        by_cases c2 : a < n ∧ b < n
        · rw [if_pos c2]
          exact (Classical.byContradiction fun q => c ⟨c2, fun r => q r.symm⟩)
        · rw [if_neg c2]
    · unfold wn at q
      by_cases c2 : a < n ∧ b < n
      · rw [if_pos c2] at q
        exact (hin a b c2.1 c2.2 q).2
      · rw [if_neg c2] at q
        exact absurd rfl q
  · have hlt : i < (Ln n w).length := by omega
    obtain ⟨e, hg⟩ : ∃ e, (Ln n w)[i]? = some e := ⟨_, List.getElem?_eq_getElem hlt⟩
    have hm := mem_Ln.mp (List.mem_of_getElem? hg)
    have h9 := L_b9 cw e (List.mem_of_getElem? hg)
    obtain ⟨r1, r2, r3⟩ := C1.2.2.2.2 i e hg
    rw [Nat.zero_add] at r1 r2 r3
    obtain ⟨σ2, p1, p2', p3⟩ := f_res_yes (P := 1) (Q := e.2.2) hS hn (show e.1 < n by omega) hm.2.1 (by omega) (by omega) (by omega)
    rw [Nat.gcd_one_left, Nat.div_one, Nat.div_one] at p3
    have p1' : f_X7_resists σ1 (nI e.1) (nI e.2.1) (1 : Int64) (lN e.2.2) = some σ2 := p1
    have ht : (Ln n w).take (i + 1) = (Ln n w).take i ++ [e] := by rw [List.take_succ, hg]; rfl
    refine ⟨.inl (nI (i + 1), σ2), ?_, Or.inl ⟨_, rfl, hlt, rfl, hF.tr p2', _, _, p3, fun f hf => ?_, fun a b q => ?_⟩⟩
    · unfold f_X7_reduced_B77
      rw [f_lines_yes C1.2.2.2, Option.bind_some, if_neg (nI_ge hlt (by omega)), il_1, il_11, il_21, nI_add, nI_add, nI_add, gd_h (okI_nI (by omega) (by omega)), gd_h (okI_nI (by omega) (by omega)), gd_h (okI_nI (by omega) (by omega)), nI_clamp (by omega), nI_clamp (by omega), nI_clamp (by omega), r1, r2, r3, nI_64 (by omega), p1', Option.bind_some, nI_add, vl_e]
    · rw [ht] at hf
      unfold p2
      rcases List.mem_append.mp hf with hf | hf
      · obtain ⟨h1, h2, h3, h4⟩ := hA f hf
        have hmf := mem_Ln.mp (List.mem_of_mem_take hf)
        by_cases c : f.1 = e.1 ∧ f.2.1 = e.2.1
        · have e3 : f.2.2 = e.2.2 := by rw [hmf.2.2.1, hm.2.2.1, c.1, c.2]
          rw [if_pos (Or.inl c), if_pos (Or.inr ⟨c.2, c.1⟩), if_pos (Or.inl c), if_pos (Or.inr ⟨c.2, c.1⟩)]
          exact ⟨e3.symm, e3.symm, rfl, rfl⟩
        · have n1 : ¬ ((f.1 = e.1 ∧ f.2.1 = e.2.1) ∨ (f.1 = e.2.1 ∧ f.2.1 = e.1)) := by
            rintro (q | q)
            · exact c q
            · omega
          have n2 : ¬ ((f.2.1 = e.1 ∧ f.1 = e.2.1) ∨ (f.2.1 = e.2.1 ∧ f.1 = e.1)) := by
            rintro (q | q)
            · omega
            · exact c ⟨q.2, q.1⟩
          rw [if_neg n1, if_neg n2, if_neg n1, if_neg n2]
          exact ⟨h1, h2, h3, h4⟩
      · rw [List.mem_singleton.mp hf, if_pos (Or.inl ⟨rfl, rfl⟩), if_pos (Or.inr ⟨rfl, rfl⟩), if_pos (Or.inl ⟨rfl, rfl⟩), if_pos (Or.inr ⟨rfl, rfl⟩)]
        exact ⟨rfl, rfl, rfl, rfl⟩
    · rw [ht]
      by_cases c : (a = e.1 ∧ b = e.2.1) ∨ (a = e.2.1 ∧ b = e.1)
      · exact ⟨e, by simp, c⟩
      · rw [p2_no c] at q
        obtain ⟨f, hf, hab⟩ := hB a b q
        exact ⟨f, List.mem_append.mpr (Or.inl hf), hab⟩
