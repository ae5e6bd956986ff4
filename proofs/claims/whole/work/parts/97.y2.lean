/-! smaller nets: a node goes -/
def upx (U D : Nat → Nat → Nat) (x a b : Nat) : Nat := U x a * D x b + U x b * D x a
def lox (D : Nat → Nat → Nat) (x a b : Nat) : Nat := D x a * D x b
def Px (U D : Nat → Nat → Nat) (x a b : Nat) : Nat := if D a b = 0 then upx U D x a b else upx U D x a b * U a b
def Qx (U D : Nat → Nat → Nat) (x a b : Nat) : Nat := if D a b = 0 then lox D x a b else upx U D x a b * D a b + lox D x a b * U a b
def Gx (U D : Nat → Nat → Nat) (x a b : Nat) : Nat := Nat.gcd (Px U D x a b) (Qx U D x a b)
def U2 (U D : Nat → Nat → Nat) (x a b : Nat) : Nat → Nat → Nat := p2 U a b (Px U D x a b / Gx U D x a b)
def D1 (D : Nat → Nat → Nat) (x a : Nat) : Nat → Nat → Nat := p2 D x a 0
def D2 (U D : Nat → Nat → Nat) (x a b : Nat) : Nat → Nat → Nat := p2 (p2 (p2 D a b (Qx U D x a b / Gx U D x a b)) x b 0) x a 0
theorem Sx.cg {σ : Sg} {n : Nat} {U U' D : Nat → Nat → Nat} (h : Sx σ n U D) (e : ∀ a b, D a b ≠ 0 → U a b = U' a b) : Sx σ n U' D := ⟨h.1, fun a b ha hb => ⟨(h.2 a b ha hb).1, fun q => by rw [← e a b q]; exact (h.2 a b ha hb).2 q⟩⟩
theorem p2_0 {U D : Nat → Nat → Nat} {a b z : Nat} : ∀ x y, p2 D a b 0 x y ≠ 0 → p2 U a b z x y = U x y := by
  intro x y h
  unfold p2 at h ⊢
  by_cases c : (x = a ∧ y = b) ∨ (x = b ∧ y = a)
  · rw [if_pos c] at h
    exact absurd rfl h
  · rw [if_neg c]
theorem nbs_one {n x a : Nat} {D : Nat → Nat → Nat} (h : nbs n D x = [a]) : a < n ∧ D x a ≠ 0 ∧ ∀ z, z < n → D x z ≠ 0 → z = a := by
  have hm : ∀ z, z ∈ nbs n D x ↔ z < n ∧ D x z ≠ 0 := fun z => by
    unfold nbs
    rw [List.mem_filter, List.mem_range, decide_eq_true_iff]
  rw [h] at hm
  have h1 := (hm a).mp (by simp)
  exact ⟨h1.1, h1.2, fun z hz hd => by simpa using (hm z).mpr ⟨hz, hd⟩⟩
theorem nbs_two {n x a b : Nat} {D : Nat → Nat → Nat} (h : nbs n D x = [a, b]) : a < b ∧ b < n ∧ D x a ≠ 0 ∧ D x b ≠ 0 ∧ ∀ z, z < n → D x z ≠ 0 → z = a ∨ z = b := by
  have hm : ∀ z, z ∈ nbs n D x ↔ z < n ∧ D x z ≠ 0 := fun z => by
    unfold nbs
    rw [List.mem_filter, List.mem_range, decide_eq_true_iff]
  have hp : (nbs n D x).Pairwise (· < ·) := List.Pairwise.filter _ List.pairwise_lt_range
  rw [h] at hm hp
  have h1 := (hm a).mp (by simp)
  have h2 := (hm b).mp (by simp)
  have h3 : a < b := by simpa using hp
  exact ⟨h3, h2.1, h1.2, h2.2, fun z hz hd => by simpa using (hm z).mpr ⟨hz, hd⟩⟩
theorem f_drop1_yes {σ : Sg} {n x a : Nat} {U D : Nat → Nat → Nat} (h : Sx σ n U D) (hn : n ≤ 6) (hz : Sz n U D) (hx : x < n) (hl : nbs n D x = [a]) : ∃ σ', f_X3_drop σ (nI x) = some σ' ∧ FrS σ σ' ∧ Sx σ' n U (D1 D x a) := by
  obtain ⟨ha, hd, ho⟩ := nbs_one hl
  obtain ⟨y, y1, y2, y3, y4, y5⟩ := f_nbFrom_yes (a := 0) h hn hz hx (Nat.zero_le _)
  have hy : y = a := by
    rcases Nat.lt_or_ge a y with q | q
    · exact absurd (y5 a (Nat.zero_le _) q) hd
    · exact ho y (by omega) (y4 (by omega))
  subst hy
  obtain ⟨z, z1, z2, z3, z4, z5⟩ := f_nbFrom_yes (a := y + 1) h hn hz hx (by omega)
  have hzn : z = n := by
    refine Classical.byContradiction fun q => ?_
    have := ho z (by omega) (z4 (by omega))
    omega
  subst hzn
  obtain ⟨σ1, p1, p2', p3⟩ := f_sput_yes (u := 1) (d := 0) h hn hx ha
  refine ⟨σ1, ?_, p2', p3.cg p2_0⟩
  have y1' : f_X3_neighbourFrom σ (nI x) (0 : Int32) = some (nI y) := y1
  have p1' : f_X3_put σ (nI x) (nI y) (1 : Int64) (0 : Int64) = some σ1 := p1
  unfold f_X3_drop f_X3_drop_J101
  rw [y1', Option.bind_some, nI_1, z1, Option.bind_some, h.1, if_pos (nI_le (Nat.le_refl _) (by omega)), p1', Option.bind_some]
/-- what is reckoned stays small -/
def Bx (U D : Nat → Nat → Nat) (x a b : Nat) : Prop := upx U D x a b < 2 ^ 62 ∧ lox D x a b < 2 ^ 62 ∧ Px U D x a b < 2 ^ 62 ∧ Qx U D x a b < 2 ^ 62 ∧ 0 < lox D x a b ∧ 0 < Qx U D x a b
theorem least_twice {p q u d : Nat} (hg : 0 < Nat.gcd p q) : p / Nat.gcd p q * u / Nat.gcd (p / Nat.gcd p q * u) (p / Nat.gcd p q * d + q / Nat.gcd p q * u) = p * u / Nat.gcd (p * u) (p * d + q * u) ∧ (p / Nat.gcd p q * d + q / Nat.gcd p q * u) / Nat.gcd (p / Nat.gcd p q * u) (p / Nat.gcd p q * d + q / Nat.gcd p q * u) = (p * d + q * u) / Nat.gcd (p * u) (p * d + q * u) := by
  have e1 : p = Nat.gcd p q * (p / Nat.gcd p q) := (Nat.mul_div_cancel' (Nat.gcd_dvd_left p q)).symm
  have e2 : q = Nat.gcd p q * (q / Nat.gcd p q) := (Nat.mul_div_cancel' (Nat.gcd_dvd_right p q)).symm
  generalize Nat.gcd p q = g at *
  generalize p / g = p' at *
  generalize q / g = q' at *
  subst e1
  subst e2
  have f1 : g * p' * u = g * (p' * u) := Nat.mul_assoc _ _ _
  have f2 : g * p' * d + g * q' * u = g * (p' * d + q' * u) := by rw [Nat.mul_add, Nat.mul_assoc, Nat.mul_assoc]
  rw [f1, f2, Nat.gcd_mul_left, Nat.mul_div_mul_left _ _ hg, Nat.mul_div_mul_left _ _ hg]
  exact ⟨rfl, rfl⟩
theorem f_drop2_yes {σ : Sg} {n x a b : Nat} {U D : Nat → Nat → Nat} (h : Sx σ n U D) (hn : n ≤ 6) (hz : Sz n U D) (hx : x < n) (hxx : D x x = 0) (hl : nbs n D x = [a, b]) (hB : Bx U D x a b) : ∃ σ', f_X3_drop σ (nI x) = some σ' ∧ FrS σ σ' ∧ Sx σ' n (U2 U D x a b) (D2 U D x a b) := by
  obtain ⟨hab, hb, hda, hdb, ho⟩ := nbs_two hl
  have ha : a < n := by omega
  have hxa : x ≠ a := fun q => hda (by rw [← q]; exact hxx)
  have hxb : x ≠ b := fun q => hdb (by rw [← q]; exact hxx)
  obtain ⟨B1, B2, B3, B4, B5, B6⟩ := hB
  obtain ⟨y, y1, y2, y3, y4, y5⟩ := f_nbFrom_yes (a := 0) h hn hz hx (Nat.zero_le _)
  have hy : y = a := by
    rcases Nat.lt_or_ge a y with q | q
    · exact absurd (y5 a (Nat.zero_le _) q) hda
    · rcases ho y (by omega) (y4 (by omega)) with r | r
      · exact r
      · omega
  subst hy
  obtain ⟨z, z1, z2, z3, z4, z5⟩ := f_nbFrom_yes (a := y + 1) h hn hz hx (by omega)
  have hzb : z = b := by
    rcases Nat.lt_or_ge b z with q | q
    · exact absurd (z5 b (by omega) q) hdb
    · rcases ho z (by omega) (z4 (by omega)) with r | r
      · omega
      · exact r
  subst hzb
  have y1' : f_X3_neighbourFrom σ (nI x) (0 : Int32) = some (nI y) := y1
  have hg0 : 0 < Nat.gcd (upx U D x y z) (lox D x y z) := Nat.gcd_pos_of_pos_right _ B5
  have g0 := f_cd_yes (a := upx U D x y z) (b := lox D x y z) (by omega) (by omega) hg0
  have hgl := gcd_lt (a := upx U D x y z) (b := lox D x y z) (by omega) (by omega)
  have hne : ¬ lN (Nat.gcd (upx U D x y z) (lox D x y z)) = 0 := fun q => by
    have := (lN_0 hgl).mp q
    omega
  have dv : ∀ m, m < 2 ^ 62 → lN m / lN (Nat.gcd (upx U D x y z) (lox D x y z)) = lN (m / Nat.gcd (upx U D x y z) (lox D x y z)) := fun m hm => lN_div (by omega) hgl
  -- beside
  have beside : ∃ σ1, f_X3_laysBeside σ (nI y) (nI z) (lN (upx U D x y z / Nat.gcd (upx U D x y z) (lox D x y z))) (lN (lox D x y z / Nat.gcd (upx U D x y z) (lox D x y z))) = some σ1 ∧ FrS σ σ1 ∧ Sx σ1 n (U2 U D x y z) (p2 D y z (Qx U D x y z / Gx U D x y z)) := by
    unfold f_X3_laysBeside
    rw [f_joined_yes h hn hz ha hb, Option.bind_some]
    by_cases c : D y z = 0
    · rw [decide_eq_false (by simp [c]), if_pos bIf]
      obtain ⟨σ1, p1, p2', p3⟩ := f_sput_yes (u := upx U D x y z / Nat.gcd (upx U D x y z) (lox D x y z)) (d := lox D x y z / Nat.gcd (upx U D x y z) (lox D x y z)) h hn ha hb
      rw [p1, Option.bind_some]
      refine ⟨σ1, rfl, p2', ?_⟩
      unfold U2 Gx Px Qx
      rw [if_pos c, if_pos c]
      exact p3
    · have hs := hz y z ha hb c
      unfold Px at B3
      unfold Qx at B4 B6
      rw [if_neg c] at B3 B4 B6
      rw [decide_eq_true c, if_neg bIt, f_upper_yes h hn ha hb c, Option.bind_some, lN_mul, vl_e, f_lower_yes h hn ha hb, Option.bind_some, Option.bind_some, lN_mul, lN_mul, lN_add, vl_e]
      obtain ⟨l1, l2⟩ := least_twice (p := upx U D x y z) (q := lox D x y z) (u := U y z) (d := D y z) hg0
      have q1 : upx U D x y z / Nat.gcd (upx U D x y z) (lox D x y z) * U y z ≤ upx U D x y z * U y z := Nat.mul_le_mul (Nat.div_le_self _ _) (Nat.le_refl _)
      have q2 : upx U D x y z / Nat.gcd (upx U D x y z) (lox D x y z) * D y z ≤ upx U D x y z * D y z := Nat.mul_le_mul (Nat.div_le_self _ _) (Nat.le_refl _)
      have q3 : lox D x y z / Nat.gcd (upx U D x y z) (lox D x y z) * U y z ≤ lox D x y z * U y z := Nat.mul_le_mul (Nat.div_le_self _ _) (Nat.le_refl _)
      have q4 : 0 < upx U D x y z / Nat.gcd (upx U D x y z) (lox D x y z) * D y z + lox D x y z / Nat.gcd (upx U D x y z) (lox D x y z) * U y z := by
        refine Nat.pos_of_ne_zero fun r => ?_
        rw [r] at l2
        rw [Nat.zero_div] at l2
        have hG : 0 < Nat.gcd (upx U D x y z * U y z) (upx U D x y z * D y z + lox D x y z * U y z) := Nat.gcd_pos_of_pos_right _ B6
        have := Nat.div_pos (Nat.le_of_dvd B6 (Nat.gcd_dvd_right (upx U D x y z * U y z) _)) hG
        omega
      generalize upx U D x y z / Nat.gcd (upx U D x y z) (lox D x y z) = p' at *
      generalize lox D x y z / Nat.gcd (upx U D x y z) (lox D x y z) = q' at *
      have hg1 : 0 < Nat.gcd (p' * U y z) (p' * D y z + q' * U y z) := Nat.gcd_pos_of_pos_right _ q4
      have hgl1 := gcd_lt (a := p' * U y z) (b := p' * D y z + q' * U y z) (by omega) (by omega)
      have hne1 : ¬ lN (Nat.gcd (p' * U y z) (p' * D y z + q' * U y z)) = 0 := fun q => by
        have := (lN_0 hgl1).mp q
        omega
      rw [f_cd_yes (by omega) (by omega) hg1, Option.bind_some, gd_h (decide_eq_true hne1), gd_h (decide_eq_true hne1), lN_div (by omega) hgl1, lN_div (by omega) hgl1, l1, l2]
      obtain ⟨σ1, p1, p2', p3⟩ := f_sput_yes (u := upx U D x y z * U y z / Nat.gcd (upx U D x y z * U y z) (upx U D x y z * D y z + lox D x y z * U y z)) (d := (upx U D x y z * D y z + lox D x y z * U y z) / Nat.gcd (upx U D x y z * U y z) (upx U D x y z * D y z + lox D x y z * U y z)) h hn ha hb
      rw [p1, Option.bind_some]
      refine ⟨σ1, rfl, p2', ?_⟩
      unfold U2 Gx Px Qx
      rw [if_neg c, if_neg c]
      exact p3
  obtain ⟨σ1, b1, b2, b3⟩ := beside
  obtain ⟨σ2, c1, c2, c3⟩ := f_sput_yes (u := 1) (d := 0) b3 hn hx hb
  obtain ⟨σ3, d1, d2, d3⟩ := f_sput_yes (u := 1) (d := 0) (c3.cg p2_0) hn hx ha
  refine ⟨σ3, ?_, (b2.tr c2).tr d2, d3.cg p2_0⟩
  have c1' : f_X3_put σ1 (nI x) (nI z) (1 : Int64) (0 : Int64) = some σ2 := c1
  have d1' : f_X3_put σ2 (nI x) (nI y) (1 : Int64) (0 : Int64) = some σ3 := d1
  unfold f_X3_drop f_X3_drop_J101
  rw [y1', Option.bind_some, nI_1, z1, Option.bind_some, h.1, if_neg (nI_ge hb (by omega)), f_upper_yes h hn hx ha hda, Option.bind_some, f_lower_yes h hn hx hb, Option.bind_some, f_upper_yes h hn hx hb hdb, Option.bind_some, f_lower_yes h hn hx ha, Option.bind_some, lN_mul, lN_mul, lN_add, vl_e, Option.bind_some, Option.bind_some, lN_mul, vl_e]
  unfold upx lox at g0 hne dv b1
  unfold upx at B1
  unfold lox at B2
  rw [g0, Option.bind_some, gd_h (decide_eq_true hne), gd_h (decide_eq_true hne), dv _ B1, dv _ B2, b1, Option.bind_some, c1', Option.bind_some, d1', Option.bind_some]
