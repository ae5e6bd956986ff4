/-! walks: sets; the reference inside a set -/
def Ht (n : Nat) (w : Nat → Nat → Nat) (f : Nat) : Nat → Nat → Nat → Int
  | 0, v, m => if v = f ∧ m = 2 ^ f then 1 else 0
  | t + 1, v, m => stp n w (Ht n w f t) v m
def FrG (σ σ' : Sg) : Prop := ((∀ i, gI σ' i = gI σ i) ∧ (∀ c, gA σ' c = gA σ c) ∧ (∀ c, c ∉ [37, 38] → gJ σ' c = gJ σ c)) ∧ WR σ'
theorem FrG.tr {σ σ1 σ2 : Sg} (h : FrG σ σ1) (g : FrG σ1 σ2) : FrG σ σ2 := ⟨⟨fun i => (g.1.1 i).trans (h.1.1 i), fun c => (g.1.2.1 c).trans (h.1.2.1 c), fun c q => (g.1.2.2 c q).trans (h.1.2.2 c q)⟩, g.2⟩
theorem FrG.net {k n : Nat} {σ σ' : Sg} {w : Nat → Nat → Nat} (h : FrG σ σ') (hN : NetAt σ k n w) : NetAt σ' k n w := hN.cg (h.1.1 _) (h.1.1 _) (h.1.2.1 _) (h.1.2.1 _) (h.1.2.1 _)
theorem FrG.sm {σ σ' : Sg} (h : FrG σ σ') : Sm σ σ' := ⟨fun i _ => h.1.1 i, fun c _ => h.1.2.1 c, fun c q => h.1.2.2 c (by revert c; decide), h.2⟩
theorem f_goes_yes {σ : Sg} {n f t : Nat} {w : Nat → Nat → Nat} (hw : wok n w) (hN : NetAt σ 0 n w) (hR : WR σ) (hf : f < n) (ht : t ≤ 6) : ∃ σ', f_X5_goes σ 0 (nI f) (nI t) = some σ' ∧ FrG σ σ' ∧ WT σ' (gR σ' 0) n (Ht n w f t) := by
  have hn := hw.2.1
  have ha : gR σ 0 = 37 ∨ gR σ 0 = 38 := by rcases hR with q | q <;> simp [q.1]
  have hla := lenW ha
  have hp : 2 ^ f < 2 ^ n := Nat.pow_lt_pow_right (by omega) hf
  have hp2 : 2 ^ n ≤ 64 := Nat.pow_le_pow_right (show 0 < 2 by omega) hn
  obtain ⟨σ1, f1, f2, f3⟩ := f_fillJ_yes (σ := σ) (q := gR σ 0) (x := 0) (by omega)
  have ga1 : gR σ1 0 = gR σ 0 := f2.2.2.2 0
  have hN1 : NetAt σ1 0 n w := FrW.net f2 hN
  have G1 : FrG σ (pJ σ1 (gR σ 0) (f * 64 + 2 ^ f) 1) := ⟨⟨fun i => f2.1 i List.not_mem_nil, fun c => f2.2.1 c List.not_mem_nil, fun c hc => by
    have hne : c ≠ gR σ 0 := fun q => hc (by rw [q]; rcases ha with r | r <;> rw [r] <;> simp)
    rw [gJ_pJ, if_neg hne]
    exact f2.2.2.1 c (by simp; exact hne)⟩, hR.cg (fun i => f2.2.2.2 i)⟩
  have W1 : WT (pJ σ1 (gR σ 0) (f * 64 + 2 ^ f) 1) (gR σ 0) n (Ht n w f 0) := fun v m hv hm => by
    rw [gJ_pJ, if_pos rfl, updL_at]
    show _ = Int64.ofInt (if v = f ∧ m = 2 ^ f then 1 else 0)
    by_cases c : v = f ∧ m = 2 ^ f
    · obtain ⟨rfl, rfl⟩ := c
      rw [if_pos rfl, if_pos ⟨rfl, rfl⟩]
      rfl
    · have hne : ¬ v * 64 + m = f * 64 + 2 ^ f := fun q => c ((show ∀ X, X < 64 → v * 64 + m = f * 64 + X → v = f ∧ m = X from fun X hX q => by omega) (2 ^ f) (by omega) q)
      rw [if_neg hne, if_neg c, f3 _ (by omega)]
      rfl
  have key := wl_inv (body := fun q : Int32 × Sg => f_X5_goes_B34 0 (nI t) q.1 q.2) (N := t) (I := fun i (q : Int32 × Sg) => q.1 = nI i ∧ FrG σ q.2 ∧ WT q.2 (gR q.2 0) n (Ht n w f i)) (Post := fun q => FrG σ q ∧ WT q (gR q 0) n (Ht n w f t)) (fun i q hi hI => ?_) FU 0 ((0 : Int32), pJ σ1 (gR σ 0) (f * 64 + 2 ^ f) 1) ⟨rfl, G1, by rw [gR_pJ, ga1]; exact W1⟩ (Nat.zero_le _) (FU_big (by omega))
  · obtain ⟨σ2, k1, k2, k3⟩ := key
    refine ⟨σ2, ?_, k2, k3⟩
    unfold f_X5_goes
    rw [gd_h (by rw [hla]; decide), f1, Option.bind_some, f_hasNode_yes (k := 0) hN1.1 hn hf, Option.bind_some, if_neg ne10, sh_1 _ (by omega), il_64, pk_mul, nI_add, ga1, hla, gd_h (okI_nI (by omega) (by omega)), nI_clamp (by omega), vl_e, k1, Option.bind_some]
  · obtain ⟨x, σ2⟩ := q
    obtain ⟨hx, hF, hS⟩ := hI
    dsimp only at hx hF hS ⊢
    subst hx
    by_cases he : i = t
    · subst he
      refine ⟨.inr σ2, ?_, Or.inr ⟨σ2, rfl, hF, hS⟩⟩
      unfold f_X5_goes_B34
      rw [if_pos (nI_le (Nat.le_refl _) (by omega))]
    · have hlt : i < t := by omega
      obtain ⟨σ3, s1, s2, s3, s4⟩ := f_step_yes hw (hF.net hN) hF.2 hS
      refine ⟨.inl (nI (i + 1), σ3), ?_, Or.inl ⟨_, rfl, hlt, rfl, hF.tr ⟨s2, s3⟩, s4⟩⟩
      unfold f_X5_goes_B34
      rw [if_neg (nI_ge hlt (by omega)), s1, Option.bind_some, vl_e, nI_1]
/-- what the class adds up -/
def kd (n f k u m : Nat) : Bool := decide (k = 0) || (decide (k = 1) && decide (u = f)) || (decide (k = 2) && decide (m = 2 ^ n - 1))
def cs (n f k : Nat) (H : Nat → Nat → Int) : Int := zs (fun u => zs (fun m => if kd n f k u m = true then H u m else 0) (2 ^ n)) n
theorem f_sum_yes {σ : Sg} {n f k : Nat} {w : Nat → Nat → Nat} {H : Nat → Nat → Int} (hw : wok n w) (hN : NetAt σ 0 n w) (hR : WR σ) (hf : f < n) (hk : k ≤ 2) (hW : WT σ (gR σ 0) n H) : f_X5_sum σ 0 (nI f) (nI k) = some (Int64.ofInt (cs n f k H)) := by
  have hn := hw.2.1
  have ha : gR σ 0 = 37 ∨ gR σ 0 = 38 := by rcases hR with q | q <;> simp [q.1]
  have hla := lenW ha
  have hp2 : 2 ^ n ≤ 64 := Nat.pow_le_pow_right (show 0 < 2 by omega) hn
  have hp0 : 0 < 2 ^ n := Nat.pow_pos (by omega)
  have h4 : gI σ (4 + 2 * 0) = nI n := hN.1
  have row : ∀ (z : Int) (u : Nat), u < n → wl (fun a : Int64 × Int32 => f_X5_sum_B28 σ (nI f) (nI k) (nI (2 ^ n - 1)) (nI u) a.1 a.2) FU (Int64.ofInt z, (0 : Int32)) = some (Int64.ofInt (z + zs (fun m => if kd n f k u m = true then H u m else 0) (2 ^ n))) := by
    intro z u hu
    have key := wl_run (body := fun a : Int64 × Int32 => f_X5_sum_B28 σ (nI f) (nI k) (nI (2 ^ n - 1)) (nI u) a.1 a.2) (fun i => (Int64.ofInt (z + zs (fun m => if kd n f k u m = true then H u m else 0) i), nI i)) (2 ^ n) (b := Int64.ofInt (z + zs (fun m => if kd n f k u m = true then H u m else 0) (2 ^ n))) (fun i hi => ?_) ?_ FU (FU_big (by omega))
    · have e0 : (Int64.ofInt z, (0 : Int32)) = (Int64.ofInt (z + zs (fun m => if kd n f k u m = true then H u m else 0) 0), nI 0) := by
        rw [show zs (fun m => if kd n f k u m = true then H u m else 0) 0 = 0 from rfl, Int.add_zero]
        rfl
      rw [e0, key]
    · dsimp only
      have hs : zs (fun m => if kd n f k u m = true then H u m else 0) (i + 1) = zs (fun m => if kd n f k u m = true then H u m else 0) i + (if kd n f k u i = true then H u i else 0) := rfl
      have hJ : ∀ x : Int64, f_X5_sum_J62 σ (nI u) x (nI i) = some (.inl (x + Int64.ofInt (H u i), nI (i + 1))) := fun x => by
        unfold f_X5_sum_J62
        rw [il_64, pk_mul, nI_add, hla, gd_h (okI_nI (by omega) (by omega)), nI_clamp (by omega), hW u i hu (by omega), vl_e, vl_e, nI_1]
      have yes : kd n f k u i = true → some (Sum.inl (Int64.ofInt (z + zs (fun m => if kd n f k u m = true then H u m else 0) i) + Int64.ofInt (H u i), nI (i + 1))) = (some (.inl (Int64.ofInt (z + zs (fun m => if kd n f k u m = true then H u m else 0) (i + 1)), nI (i + 1))) : Option ((Int64 × Int32) ⊕ Int64)) := fun q => by
        rw [hs, if_pos q, ← Int64.ofInt_add, Int.add_assoc]
      have no : kd n f k u i = false → some (Sum.inl (Int64.ofInt (z + zs (fun m => if kd n f k u m = true then H u m else 0) i), nI (i + 1))) = (some (.inl (Int64.ofInt (z + zs (fun m => if kd n f k u m = true then H u m else 0) (i + 1)), nI (i + 1))) : Option ((Int64 × Int32) ⊕ Int64)) := fun q => by
        rw [hs, q, if_neg (by decide), Int.add_zero]
      unfold f_X5_sum_B28 f_X5_sum_J50
      rw [if_neg (nI_nlt (by omega) (by omega)), hJ]
      rcases (show k = 0 ∨ k = 1 ∨ k = 2 by omega) with rfl | rfl | rfl
      · rw [if_pos (show nI 0 = 0 from rfl)]
        exact yes (by simp [kd])
      · rw [if_neg (show ¬ nI 1 = 0 by decide), if_pos (show nI 1 = 1 from rfl), if_neg (show ¬ nI 1 = 2 by decide), vl_e, nI_1]
        by_cases c : u = f
        · rw [if_pos (by rw [c])]
          exact yes (by simp [kd, c])
        · rw [if_neg (by rw [nI_eq (by omega) (by omega)]; exact c)]
          exact no (by simp [kd, c])
      · rw [if_neg (show ¬ nI 2 = 0 by decide), if_neg (show ¬ nI 2 = 1 by decide), if_pos (show nI 2 = 2 from rfl), vl_e, nI_1]
        by_cases c : i = 2 ^ n - 1
        · rw [if_pos (by rw [c])]
          exact yes (by simp [kd, c])
        · rw [if_neg (by rw [nI_eq (by omega) (by omega)]; exact c)]
          exact no (by simp [kd, c])
    · dsimp only
      unfold f_X5_sum_B28
      rw [if_pos (nI_lt (by omega) (by omega))]
  unfold f_X5_sum
  rw [h4, sh_all n (by omega), vl_e]
  have key := wl_run (body := fun a : Int64 × Int32 => f_X5_sum_B16 σ 0 (nI f) (nI k) (nI (2 ^ n - 1)) a.1 a.2) (fun i => (Int64.ofInt (zs (fun u => zs (fun m => if kd n f k u m = true then H u m else 0) (2 ^ n)) i), nI i)) n (b := Int64.ofInt (cs n f k H)) (fun i hi => ?_) ?_ FU (FU_big (by omega))
  · rw [show ((0 : Int64), (0 : Int32)) = (Int64.ofInt (zs (fun u => zs (fun m => if kd n f k u m = true then H u m else 0) (2 ^ n)) 0), nI 0) from rfl, key]
    rfl
  · dsimp only
    unfold f_X5_sum_B16
    rw [h4, if_neg (nI_ge hi (by omega)), row _ i hi, Option.bind_some, vl_e, nI_1]
    rfl
  · dsimp only
    unfold f_X5_sum_B16
    rw [h4, if_pos (nI_le (Nat.le_refl _) (by omega))]
    rfl
