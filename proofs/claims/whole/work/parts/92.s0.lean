/-! all the checks -/
theorem ckT_all {n : Nat} (h2 : 2 ≤ n) (h6 : n ≤ 6) : ckT n = true := by
  have h : n = 2 ∨ n = 3 ∨ n = 4 ∨ n = 5 ∨ n = 6 := by omega
  rcases h with rfl | rfl | rfl | rfl | rfl
  · exact ckT_2
  · exact ckT_3
  · exact ckT_4
  · exact ckT_5
  · exact ckT_6
theorem ckC_all {n : Nat} (h2 : 2 ≤ n) (h6 : n ≤ 6) : ckC n 0 1 = true := by
  have h : n = 2 ∨ n = 3 ∨ n = 4 ∨ n = 5 ∨ n = 6 := by omega
  rcases h with rfl | rfl | rfl | rfl | rfl
  · exact ckC_2
  · exact ckC_3
  · exact ckC_4
  · exact ckC_5
  · exact ckC_6
theorem ckB_all2 {v u : Nat} (hv : v < 2) (hu : u < 2) (huv : u ≠ v) : ckB 2 v u = true := by
  have h : v = 0 ∨ v = 1 := by omega
  have g : u = 0 ∨ u = 1 := by omega
  rcases h with rfl | rfl
  · rcases g with rfl | rfl
    · exact absurd rfl huv
    · exact ckB_2_0_1
  · rcases g with rfl | rfl
    · exact ckB_2_1_0
    · exact absurd rfl huv
theorem ckB_all3 {v u : Nat} (hv : v < 3) (hu : u < 3) (huv : u ≠ v) : ckB 3 v u = true := by
  have h : v = 0 ∨ v = 1 ∨ v = 2 := by omega
  have g : u = 0 ∨ u = 1 ∨ u = 2 := by omega
  rcases h with rfl | rfl | rfl
  · rcases g with rfl | rfl | rfl
    · exact absurd rfl huv
    · exact ckB_3_0_1
    · exact ckB_3_0_2
  · rcases g with rfl | rfl | rfl
    · exact ckB_3_1_0
    · exact absurd rfl huv
    · exact ckB_3_1_2
  · rcases g with rfl | rfl | rfl
    · exact ckB_3_2_0
    · exact ckB_3_2_1
    · exact absurd rfl huv
theorem ckB_all4 {v u : Nat} (hv : v < 4) (hu : u < 4) (huv : u ≠ v) : ckB 4 v u = true := by
  have h : v = 0 ∨ v = 1 ∨ v = 2 ∨ v = 3 := by omega
  have g : u = 0 ∨ u = 1 ∨ u = 2 ∨ u = 3 := by omega
  rcases h with rfl | rfl | rfl | rfl
  · rcases g with rfl | rfl | rfl | rfl
    · exact absurd rfl huv
    · exact ckB_4_0_1
    · exact ckB_4_0_2
    · exact ckB_4_0_3
  · rcases g with rfl | rfl | rfl | rfl
    · exact ckB_4_1_0
    · exact absurd rfl huv
    · exact ckB_4_1_2
    · exact ckB_4_1_3
  · rcases g with rfl | rfl | rfl | rfl
    · exact ckB_4_2_0
    · exact ckB_4_2_1
    · exact absurd rfl huv
    · exact ckB_4_2_3
  · rcases g with rfl | rfl | rfl | rfl
    · exact ckB_4_3_0
    · exact ckB_4_3_1
    · exact ckB_4_3_2
    · exact absurd rfl huv
theorem ckB_all5 {v u : Nat} (hv : v < 5) (hu : u < 5) (huv : u ≠ v) : ckB 5 v u = true := by
  have h : v = 0 ∨ v = 1 ∨ v = 2 ∨ v = 3 ∨ v = 4 := by omega
  have g : u = 0 ∨ u = 1 ∨ u = 2 ∨ u = 3 ∨ u = 4 := by omega
  rcases h with rfl | rfl | rfl | rfl | rfl
  · rcases g with rfl | rfl | rfl | rfl | rfl
    · exact absurd rfl huv
    · exact ckB_5_0_1
    · exact ckB_5_0_2
    · exact ckB_5_0_3
    · exact ckB_5_0_4
  · rcases g with rfl | rfl | rfl | rfl | rfl
    · exact ckB_5_1_0
    · exact absurd rfl huv
    · exact ckB_5_1_2
    · exact ckB_5_1_3
    · exact ckB_5_1_4
  · rcases g with rfl | rfl | rfl | rfl | rfl
    · exact ckB_5_2_0
    · exact ckB_5_2_1
    · exact absurd rfl huv
    · exact ckB_5_2_3
    · exact ckB_5_2_4
  · rcases g with rfl | rfl | rfl | rfl | rfl
    · exact ckB_5_3_0
    · exact ckB_5_3_1
    · exact ckB_5_3_2
    · exact absurd rfl huv
    · exact ckB_5_3_4
  · rcases g with rfl | rfl | rfl | rfl | rfl
    · exact ckB_5_4_0
    · exact ckB_5_4_1
    · exact ckB_5_4_2
    · exact ckB_5_4_3
    · exact absurd rfl huv
theorem ckB_all6 {v u : Nat} (hv : v < 6) (hu : u < 6) (huv : u ≠ v) : ckB 6 v u = true := by
  have h : v = 0 ∨ v = 1 ∨ v = 2 ∨ v = 3 ∨ v = 4 ∨ v = 5 := by omega
  have g : u = 0 ∨ u = 1 ∨ u = 2 ∨ u = 3 ∨ u = 4 ∨ u = 5 := by omega
  rcases h with rfl | rfl | rfl | rfl | rfl | rfl
  · rcases g with rfl | rfl | rfl | rfl | rfl | rfl
    · exact absurd rfl huv
    · exact ckB_6_0_1
    · exact ckB_6_0_2
    · exact ckB_6_0_3
    · exact ckB_6_0_4
    · exact ckB_6_0_5
  · rcases g with rfl | rfl | rfl | rfl | rfl | rfl
    · exact ckB_6_1_0
    · exact absurd rfl huv
    · exact ckB_6_1_2
    · exact ckB_6_1_3
    · exact ckB_6_1_4
    · exact ckB_6_1_5
  · rcases g with rfl | rfl | rfl | rfl | rfl | rfl
    · exact ckB_6_2_0
    · exact ckB_6_2_1
    · exact absurd rfl huv
    · exact ckB_6_2_3
    · exact ckB_6_2_4
    · exact ckB_6_2_5
  · rcases g with rfl | rfl | rfl | rfl | rfl | rfl
    · exact ckB_6_3_0
    · exact ckB_6_3_1
    · exact ckB_6_3_2
    · exact absurd rfl huv
    · exact ckB_6_3_4
    · exact ckB_6_3_5
  · rcases g with rfl | rfl | rfl | rfl | rfl | rfl
    · exact ckB_6_4_0
    · exact ckB_6_4_1
    · exact ckB_6_4_2
    · exact ckB_6_4_3
    · exact absurd rfl huv
    · exact ckB_6_4_5
  · rcases g with rfl | rfl | rfl | rfl | rfl | rfl
    · exact ckB_6_5_0
    · exact ckB_6_5_1
    · exact ckB_6_5_2
    · exact ckB_6_5_3
    · exact ckB_6_5_4
    · exact absurd rfl huv
theorem ckB_all {n v u : Nat} (h2 : 2 ≤ n) (h6 : n ≤ 6) (hv : v < n) (hu : u < n) (huv : u ≠ v) : ckB n v u = true := by
  have h : n = 2 ∨ n = 3 ∨ n = 4 ∨ n = 5 ∨ n = 6 := by omega
  rcases h with rfl | rfl | rfl | rfl | rfl
  · exact ckB_all2 hv hu huv
  · exact ckB_all3 hv hu huv
  · exact ckB_all4 hv hu huv
  · exact ckB_all5 hv hu huv
  · exact ckB_all6 hv hu huv
