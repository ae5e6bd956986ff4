/-! odds -/
theorem bitc : ∀ s, s < 1024 → f_J6_bitCount_0f7a4 (nI s) = some (nI (cnt s)) := by decide +kernel
theorem f_pow_yes {b k : Nat} (hb : b < 2 ^ 31) (hk : k < 100) : f_X6_power (nI b) (nI k) = some (lN (b ^ k)) := by
  unfold f_X6_power
  have key := wl_run (body := fun a : Int64 × Int32 => f_X6_power_B5 (nI b) (nI k) a.1 a.2) (fun i => (lN (b ^ i), nI i)) k (b := lN (b ^ k)) (fun i hi => ?_) ?_ FU (FU_big (by omega))
  · rw [show ((1 : Int64), (0 : Int32)) = (lN (b ^ 0), nI 0) from rfl, key]
    rfl
  · dsimp only
    unfold f_X6_power_B5
    rw [if_neg (nI_ge hi (by omega)), nI_64 hb, lN_mul, vl_e, vl_e, nI_1, Nat.pow_succ]
  · dsimp only
    unfold f_X6_power_B5
    rw [if_pos (nI_le (Nat.le_refl _) (by omega))]
theorem f_mpow_yes {b k : Nat} (hk : k < 100) : f_X7_power (lN b) (nI k) = some (lN (b ^ k)) := by
  unfold f_X7_power
  have key := wl_run (body := fun a : Int64 × Int32 => f_X7_power_B5 (lN b) (nI k) a.1 a.2) (fun i => (lN (b ^ i), nI i)) k (b := lN (b ^ k)) (fun i hi => ?_) ?_ FU (FU_big (by omega))
  · rw [show ((1 : Int64), (0 : Int32)) = (lN (b ^ 0), nI 0) from rfl, key]
    rfl
  · dsimp only
    unfold f_X7_power_B5
    rw [if_neg (nI_ge hi (by omega)), lN_mul, vl_e, vl_e, nI_1, Nat.pow_succ]
  · dsimp only
    unfold f_X7_power_B5
    rw [if_pos (nI_le (Nat.le_refl _) (by omega))]
def od (n : Nat) (L : List (Nat × Nat × Nat)) (x s : Nat) : Nat := if tog n (fo (sub L s)).2 = true then (10 - x) ^ cnt s * x ^ (L.length - cnt s) else 0
theorem od_le {n x s : Nat} {L : List (Nat × Nat × Nat)} (hx : x ≤ 10) (hc : cnt s ≤ L.length) : od n L x s ≤ 10 ^ L.length := by
  unfold od
  split
  · have h1 : (10 - x) ^ cnt s ≤ 10 ^ cnt s := Nat.pow_le_pow_left (by omega) _
    have h2 : x ^ (L.length - cnt s) ≤ 10 ^ (L.length - cnt s) := Nat.pow_le_pow_left hx _
    have h3 := Nat.mul_le_mul h1 h2
    rw [← Nat.pow_add, show cnt s + (L.length - cnt s) = L.length by omega] at h3
    exact h3
  · exact Nat.zero_le _
theorem sum_bd {f : Nat → Nat} {B : Nat} : ∀ m, (∀ i, i < m → f i ≤ B) → ((List.range m).map f).sum ≤ m * B
  | 0, _ => by simp
  | m + 1, h => by
    rw [sum_range_succ, Nat.add_mul, Nat.one_mul]
    have := sum_bd m (fun i hi => h i (by omega))
    have := h m (by omega)
    omega
theorem cnt_le {α : Type} {L : List α} {s : Nat} (hl : L.length ≤ 10) (hs : s < 2 ^ L.length) : cnt s ≤ L.length := by
  have h1 : cnt s = (sub L s).length := cnt_sub L 10 s hl hs
  have h2 : ∀ (L : List α) (s : Nat), (sub L s).length ≤ L.length := by
    intro L
    induction L with
    | nil => intro s; exact Nat.le_refl _
    | cons a L ih =>
      intro s
      have := ih (s / 2)
      unfold sub
      split
      · rw [List.length_cons, List.length_cons]
        omega
      · rw [List.length_cons]
        omega
  rw [h1]
  exact h2 L s
theorem S_odds (x z : Int32) {σ : Sg} (h : Inv σ) : ∃ r σ2, f_X6_odds σ x z = some r ∧ f_X7_odds σ x z = some (r, σ2) ∧ Inv σ2 := by
  obtain ⟨n, w, H, c, len, hP⟩ := h
  have hinv : Inv σ := ⟨n, w, H, c, len, hP⟩
  have hC : Cur σ n w := hP.1
  obtain ⟨⟨cw, cn, c17, cr⟩, hH, hI, hT, hS, hWR⟩ := id hP
  have hn := cw.2.1
  have h2n := cw.1
  have hl := cw.2.2.2.2.2
  have h10 := pow10 hl
  have f_in_10 : f_X7_in x.toInt64 (0 : Int64) (10 : Int64) = if x < 0 ∨ 10 < x then some 0 else some 1 := by
    rw [show (0 : Int64) = (0 : Int32).toInt64 from rfl, show (10 : Int64) = (10 : Int32).toInt64 from rfl, f_in_i]
  by_cases hx : x < 0 ∨ 10 < x
  · refine ⟨-1, σ, ?_, ?_, hinv⟩
    · unfold f_X6_odds
      by_cases q : x < 0
      · rw [if_pos q]
      · rw [if_neg q, if_pos (hx.resolve_left q)]
    · unfold f_X7_odds
      rw [f_in_10, if_pos hx, Option.bind_some, if_pos rfl]
  · have x0 : ¬ x < 0 := fun q => hx (Or.inl q)
    have x10 : ¬ 10 < x := fun q => hx (Or.inr q)
    by_cases hz : z < 0 ∨ 1 < z
    · refine ⟨-1, σ, ?_, ?_, hinv⟩
      · unfold f_X6_odds
        rw [if_neg x0, if_neg x10, isPart_no hz, Option.bind_some, if_pos rfl]
      · unfold f_X7_odds
        rw [f_in_10, if_neg hx, Option.bind_some, if_neg ne10, f_in_im, if_pos hz, Option.bind_some, if_pos rfl]
    · obtain ⟨t, ht, rfl⟩ := nI_of2 (M := 10) (n := 10) rfl x0 (Int32.not_lt.mp x10)
      have e10 : (10 : Int32) - nI t = nI (10 - t) := by rw [il_10, pk_sub ht]
      have key1 := wl_run (body := fun a : Int64 × Int32 => f_X6_odds_B35 σ (nI t) (nI (Ln n w).length) a.1 a.2) (fun i => (lN (((List.range i).map (od n (Ln n w) t)).sum), nI i)) (2 ^ (Ln n w).length) (b := lN (((List.range (2 ^ (Ln n w).length)).map (od n (Ln n w) t)).sum)) (fun i hi => ?_) ?_ FU (FU_big (by omega))
      · have key2 := wl_inv (body := fun a : Int64 × Int32 × Sg => f_X7_odds_B31 (nI t) a.1 a.2.1 a.2.2) (N := 2 ^ (Ln n w).length) (I := fun i (a : Int64 × Int32 × Sg) => a.1 = lN (((List.range i).map (od n (Ln n w) t)).sum) ∧ a.2.1 = nI i ∧ Fr51 σ a.2.2) (Post := fun b : Int64 × Sg => b.1 = lN (((List.range (2 ^ (Ln n w).length)).map (od n (Ln n w) t)).sum) ∧ Fr51 σ b.2) (fun i a hi hI => ?_) FU 0 ((0 : Int64), (0 : Int32), σ) ⟨rfl, rfl, Fr.rf⟩ (Nat.zero_le _) (FU_big (by omega))
        · obtain ⟨⟨y, σ2⟩, k1, k2, k3⟩ := key2
          dsimp only at k2 k3
          subst k2
          have C2 := hC.fx k3.x
          have hb := sum_bd (f := od n (Ln n w) t) (B := 10 ^ (Ln n w).length) (2 ^ (Ln n w).length) (fun i hi => od_le ht (cnt_le hl hi))
          have hp : 10 ^ (Ln n w).length ≤ 10 ^ 10 := Nat.pow_le_pow_right (by omega) hl
          have hp2 : 2 ^ (Ln n w).length * 10 ^ (Ln n w).length ≤ 1024 * 10 ^ 10 := Nat.mul_le_mul h10 hp
          have hp3 : 0 < 10 ^ (Ln n w).length := Nat.pow_pos (by omega)
          obtain ⟨r, p1, p2⟩ := f_part_both (a := ((List.range (2 ^ (Ln n w).length)).map (od n (Ln n w) t)).sum) (b := 10 ^ (Ln n w).length) (by omega) (by omega) hp3 z
          refine ⟨r, σ2, ?_, ?_, ⟨n, w, H, c, len, hP.sm (FrX.sm k3.x hWR)⟩⟩
          · unfold f_X6_odds
            rw [if_neg x0, if_neg x10, isPart_yes hz, Option.bind_some, if_neg ne10, show gI σ 5 = nI (Ln n w).length from cn.2.1, vl_e, show ((0 : Int64), (0 : Int32)) = (lN (((List.range 0).map (od n (Ln n w) t)).sum), nI 0) from rfl, key1, Option.bind_some, il_10, f_pow_yes (by omega) (by omega), Option.bind_some, p1, Option.bind_some]
          · unfold f_X7_odds
            rw [f_in_10, if_neg hx, Option.bind_some, if_neg ne10, f_in_im, if_neg hz, Option.bind_some, if_neg ne10, k1, Option.bind_some]
            dsimp only
            rw [f_lines_yes C2.2.2.2, Option.bind_some, jl_10, f_mpow_yes (by omega), Option.bind_some, p2, Option.bind_some]
        · obtain ⟨a, b, σ1⟩ := a
          obtain ⟨ha, hb, hF⟩ := hI
          dsimp only at ha hb hF ⊢
          subst ha
          subst hb
          have C1 := hC.fx hF.x
          by_cases he : i = 2 ^ (Ln n w).length
          · subst he
            refine ⟨.inr (lN (((List.range (2 ^ (Ln n w).length)).map (od n (Ln n w) t)).sum), σ1), ?_, Or.inr ⟨_, rfl, rfl, hF⟩⟩
            unfold f_X7_odds_B31
            rw [f_lines_yes C1.2.2.2, Option.bind_some, sh_1 _ (by omega), if_pos (nI_le (Nat.le_refl _) (by omega))]
          · have hlt : i < 2 ^ (Ln n w).length := by omega
            have hcn := cnt_le hl hlt
            obtain ⟨σ2, p1, p2, p3⟩ := f_parts_yes (s := i) C1.2.2.2 hl (Ln_b hn) (by omega)
            have C2 := C1.fx (Fr51.x p2)
            refine ⟨.inl (lN (((List.range (i + 1)).map (od n (Ln n w) t)).sum), nI (i + 1), σ2), ?_, Or.inl ⟨_, rfl, hlt, rfl, rfl, hF.tr p2⟩⟩
            unfold f_X7_odds_B31
            rw [f_lines_yes C1.2.2.2, Option.bind_some, sh_1 _ (by omega), if_neg (nI_ge hlt (by omega)), p1, Option.bind_some]
            dsimp only
            rw [f_isTogether_yes C2.2.2.1 h2n hn p3, Option.bind_some, sum_range_succ]
            cases q : tog n (fo (sub (Ln n w) i)).2
            · have e0 : od n (Ln n w) t i = 0 := by unfold od; rw [q, if_neg (by decide)]
              rw [if_pos bIf, vl_e, vl_e, nI_1, e0, jl_0, lN_add]
            · have e0 : od n (Ln n w) t i = (10 - t) ^ cnt i * t ^ ((Ln n w).length - cnt i) := by unfold od; rw [q, if_pos rfl]
              rw [if_neg bIt, f_ones_yes (by omega), Option.bind_some, e10, nI_64 (by omega), f_mpow_yes (by omega), Option.bind_some, f_lines_yes C2.2.2.2, Option.bind_some, Option.bind_some, pk_sub hcn, nI_64 (by omega), f_mpow_yes (by omega), Option.bind_some, vl_e, vl_e, nI_1, lN_mul, lN_add, e0]
      · dsimp only
        have hcn := cnt_le hl hi
        unfold f_X6_odds_B35
        rw [sh_1 _ (by omega), if_neg (nI_ge hi (by omega)), f_hangsBy_yes cw cn (by omega), Option.bind_some, sum_range_succ]
        cases q : tog n (fo (sub (Ln n w) i)).2
        · have e0 : od n (Ln n w) t i = 0 := by unfold od; rw [q, if_neg (by decide)]
          rw [if_pos bIf, vl_e, nI_1, e0]
          rfl
        · have e0 : od n (Ln n w) t i = (10 - t) ^ cnt i * t ^ ((Ln n w).length - cnt i) := by unfold od; rw [q, if_pos rfl]
          rw [if_neg bIt, bitc i (by omega), Option.bind_some, e10, f_pow_yes (by omega) (by omega), Option.bind_some, pk_sub hcn, f_pow_yes (by omega) (by omega), Option.bind_some, vl_e, vl_e, nI_1, lN_mul, lN_add, e0]
      · dsimp only
        unfold f_X6_odds_B35
        rw [sh_1 _ (by omega), if_pos (nI_le (Nat.le_refl _) (by omega))]
