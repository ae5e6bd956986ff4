/-! walks: both answer the same -/
theorem rem2 : ∀ a, a < 7 → nI a - nI a / (2 : Int32) * (2 : Int32) = nI (a % 2) := by decide +kernel
theorem zs_more {g : Nat → Int} {n : Nat} : ∀ k, (∀ x, n ≤ x → x < n + k → g x = 0) → zs g (n + k) = zs g n
  | 0, _ => rfl
  | k + 1, h => by
    show zs g (n + k) + g (n + k) = zs g n
    rw [zs_more k (fun x h1 h2 => h x h1 (by omega)), h (n + k) (by omega) (by omega), Int.add_zero]
theorem Gt_big {n : Nat} {w : Nat → Nat → Nat} {A f : Nat} (hf : f < n) : ∀ t x, n ≤ x → Gt (Ln n w) A f t x = 0
  | 0, x, h => by
    show (if x = f then (1 : Int) else 0) = 0
    rw [if_neg (by omega)]
  | t + 1, x, h => by
    show lz (lc A (Gt (Ln n w) A f t) x) (Ln n w) = 0
    have : lz (lc A (Gt (Ln n w) A f t) x) (Ln n w) = lz (fun _ => 0) (Ln n w) := lz_congr _ (fun e he => by
      have hm := mem_Ln.mp he
      unfold lc
      rw [if_neg (show ¬ e.1 = x by omega), if_neg (show ¬ e.2.1 = x by omega)]
      split <;> rfl)
    rw [this]
    have z : ∀ L : List (Nat × Nat × Nat), lz (fun _ => 0) L = 0 := by
      intro L
      induction L with
      | nil => rfl
      | cons a L ih =>
        show 0 + lz (fun _ => 0) L = 0
        rw [ih]
        rfl
    exact z _
theorem Gt_6 {n : Nat} {w : Nat → Nat → Nat} {A f t : Nat} (hn : n ≤ 6) (hf : f < n) : zs (Gt (Ln n w) A f t) 6 = zs (Gt (Ln n w) A f t) n := by
  have := zs_more (g := Gt (Ln n w) A f t) (n := n) (6 - n) (fun x h1 _ => Gt_big hf t x h1)
  rw [show n + (6 - n) = 6 by omega] at this
  exact this
theorem sb_top {n m : Nat} (hm : m < 2 ^ n) : sb m (2 ^ n - 1) = true := by
  rw [sb_iff]
  intro i hi
  rw [Nat.testBit_two_pow_sub_one]
  refine decide_eq_true (Classical.byContradiction fun q => ?_)
  rw [Nat.testBit_lt_two_pow (Nat.lt_of_lt_of_le hm (Nat.pow_le_pow_right (by omega) (by omega)))] at hi
  cases hi
theorem Gt_all {n : Nat} {w : Nat → Nat → Nat} (hw : wok n w) {f t x : Nat} (hf : f < n) (hx : x < n) : Gt (Ln n w) (2 ^ n - 1) f t x = zs (Ht n w f t x) (2 ^ n) := by
  have hp0 : 0 < 2 ^ n := Nat.pow_pos (by omega)
  rw [Gt_H hw (by omega) hf (by rw [Nat.testBit_two_pow_sub_one, decide_eq_true hf]) t x hx]
  exact zs_congr _ (fun m hm => by rw [sb_top hm, if_pos rfl])
theorem zs_pick {g : Nat → Int} {f n : Nat} (hf : f < n) : zs (fun u => if u = f then g u else 0) n = g f := by
  have key : ∀ n, zs (fun u => if u = f then g u else 0) n = if f < n then g f else 0 := by
    intro n
    induction n with
    | zero => rfl
    | succ n ih =>
      show zs (fun u => if u = f then g u else 0) n + (if n = f then g n else 0) = _
      rw [ih]
      by_cases c : n = f
      · subst c
        rw [if_neg (show ¬ n < n by omega), if_pos rfl, if_pos (show n < n + 1 by omega), Int.zero_add]
      · rw [if_neg c, Int.add_zero]
        by_cases c2 : f < n
        · rw [if_pos c2, if_pos (show f < n + 1 by omega)]
        · rw [if_neg c2, if_neg (show ¬ f < n + 1 by omega)]
  rw [key, if_pos hf]
theorem cs_0 {n : Nat} {w : Nat → Nat → Nat} (hw : wok n w) {f t : Nat} (hf : f < n) : cs n f 0 (Ht n w f t) = zs (Gt (Ln n w) (2 ^ n - 1) f t) n := by
  unfold cs
  refine zs_congr _ (fun x hx => ?_)
  rw [Gt_all hw hf hx]
  exact zs_congr _ (fun m _ => by rw [if_pos (by simp [kd])])
theorem cs_1 {n : Nat} {w : Nat → Nat → Nat} (hw : wok n w) {f t : Nat} (hf : f < n) : cs n f 1 (Ht n w f t) = Gt (Ln n w) (2 ^ n - 1) f t f := by
  unfold cs
  have e1 : zs (fun u => zs (fun m => if kd n f 1 u m = true then Ht n w f t u m else 0) (2 ^ n)) n = zs (fun u => if u = f then Gt (Ln n w) (2 ^ n - 1) f t u else 0) n := zs_congr _ (fun x hx => by
    by_cases c : x = f
    · rw [if_pos c, Gt_all hw hf hx]
      exact zs_congr _ (fun m _ => by rw [if_pos (by simp [kd, c])])
    · rw [if_neg c]
      have : zs (fun m => if kd n f 1 x m = true then Ht n w f t x m else 0) (2 ^ n) = zs (fun _ => 0) (2 ^ n) := zs_congr _ (fun m _ => by rw [if_neg (by simp [kd, c])])
      rw [this, zs_zero])
  rw [e1, zs_pick hf]
theorem LnN {n : Nat} {w : Nat → Nat → Nat} (hn : n ≤ 6) : ∀ e ∈ Ln n w, e.1 < 6 ∧ e.2.1 < 6 ∧ e.1 ≠ e.2.1 := fun e he => by
  have := mem_Ln.mp he
  omega
theorem FrV.sm {σ σ' : Sg} (h : FrV σ σ') (hw : WR σ) : Sm σ σ' := Fr.sm h hw (by decide) (by decide) (by decide)
theorem S_walks (x y z : Int32) {σ : Sg} (h : Inv σ) : ∃ r σ1 σ2, f_X6_walks σ x y z = some (r, σ1) ∧ f_X7_walks σ1 x y z = some (r, σ2) ∧ Inv σ2 := by
  obtain ⟨n, w, H, c, len, hP⟩ := h
  have hinv : Inv σ := ⟨n, w, H, c, len, hP⟩
  have hC : Cur σ n w := hP.1
  obtain ⟨⟨cw, cn, c17, cr⟩, hH, hI, hT, hS, hWR⟩ := id hP
  have hn := cw.2.1
  have h2n := cw.1
  have hl := cw.2.2.2.2.2
  have hp2 : 2 ^ n ≤ 64 := Nat.pow_le_pow_right (show 0 < 2 by omega) hn
  have hp0 : 0 < 2 ^ n := Nat.pow_pos (by omega)
  have f_in_6 : f_X7_in y.toInt64 (0 : Int64) (6 : Int64) = if y < 0 ∨ 6 < y then some 0 else some 1 := by
    rw [show (0 : Int64) = (0 : Int32).toInt64 from rfl, show (6 : Int64) = (6 : Int32).toInt64 from rfl, f_in_i]
  rcases node_cases hn x with hx | ⟨f, hf, rfl⟩
  · refine ⟨-1, σ, σ, ?_, ?_, hinv⟩
    · unfold f_X6_walks
      rw [f_hasNode_no (k := 0) cn.1 hx, Option.bind_some, if_pos rfl]
    · unfold f_X7_walks
      rw [f_isNode_no c17 h2n hn hx, Option.bind_some, if_pos rfl]
  · by_cases hy : y < 0 ∨ 6 < y
    · refine ⟨-1, σ, σ, ?_, ?_, hinv⟩
      · unfold f_X6_walks
        rw [f_hasNode_yes (k := 0) cn.1 hn hf, Option.bind_some, if_neg ne10]
        by_cases q : y < 0
        · rw [if_pos q]
        · rw [if_neg q, if_pos (hy.resolve_left q)]
      · unfold f_X7_walks
        rw [f_isNode_yes c17 hn hf, Option.bind_some, if_neg ne10, f_in_6, if_pos hy, Option.bind_some, if_pos rfl]
    · have y0 : ¬ y < 0 := fun q => hy (Or.inl q)
      have y6 : ¬ 6 < y := fun q => hy (Or.inr q)
      obtain ⟨t, ht, rfl⟩ := nI_of2 (M := 6) (n := 6) rfl y0 (Int32.not_lt.mp y6)
      rcases what2_cases z with hz | hz
      · refine ⟨-1, σ, σ, ?_, ?_, hinv⟩
        · unfold f_X6_walks
          rw [f_hasNode_yes (k := 0) cn.1 hn hf, Option.bind_some, if_neg ne10, if_neg y0, if_neg y6]
          by_cases q : z < 0
          · rw [if_pos q]
          · rw [if_neg q, if_neg (Int32.not_le.mpr (hz.resolve_left q))]
        · unfold f_X7_walks
          rw [f_isNode_yes c17 hn hf, Option.bind_some, if_neg ne10, f_in_6, if_neg hy, Option.bind_some, if_neg ne10, f_in_02, if_pos hz, Option.bind_some, if_pos rfl]
      · obtain ⟨k, hk, rfl⟩ : ∃ k, k ≤ 2 ∧ z = nI k := by
          rcases hz with q | q | q
          · exact ⟨0, by omega, q⟩
          · exact ⟨1, by omega, q⟩
          · exact ⟨2, by omega, q⟩
        have k0 : ¬ nI k < 0 := nI_pos (by omega)
        have k2 : nI k ≤ 2 := by rw [il_2]; exact nI_le hk (by omega)
        have kn : ¬ (nI k < 0 ∨ 2 < nI k) := by
          rintro (q | q)
          · exact k0 q
          · exact absurd k2 (Int32.not_le.mpr q)
        obtain ⟨σ1, g1, g2, g3⟩ := f_goes_yes cw cn hWR hf ht
        have s1 := f_sum_yes cw (g2.net cn) g2.2 hf hk g3
        have e6 : f_X6_walks σ (nI f) (nI t) (nI k) = some (Int64.ofInt (cs n f k (Ht n w f t)), σ1) := by
          unfold f_X6_walks
          rw [f_hasNode_yes (k := 0) cn.1 hn hf, Option.bind_some, if_neg ne10, if_neg y0, if_neg y6, if_neg k0, if_pos k2, g1, Option.bind_some, s1, Option.bind_some]
        have P1 := hP.sm g2.sm
        have C1 : Cur σ1 n w := P1.1
        have e7 : ∀ r, (if (2 : Int32) ≤ nI k then (wl (fun a : Int64 × Int32 × Sg => f_X7_walks_B83 (nI f) (nI t) (nI (2 ^ n - 1)) a.1 a.2.1 a.2.2) FU ((0 : Int64), (1 : Int32), σ1)).bind (fun t23 => some (t23.1, t23.2)) else (f_X7_within σ1 (nI (2 ^ n - 1)) (nI f) (nI t)).bind (fun t24 => (if nI k = 0 then some (t24.1, t24.2) else gd (okI (nI f) 6) (some (gJ t24.2 52 (nI f).toNatClampNeg, t24.2))))) = r → f_X7_walks σ1 (nI f) (nI t) (nI k) = r := fun r hr => by
          rw [← hr]
          unfold f_X7_walks
          rw [f_isNode_yes C1.2.2.1 hn hf, Option.bind_some, if_neg ne10, f_in_6, if_neg hy, Option.bind_some, if_neg ne10, f_in_02, if_neg kn, Option.bind_some, if_neg ne10, C1.2.2.1, sh_all n (by omega), vl_e]
        have wth : ∀ σ2, Cur σ2 n w → ∀ A, A < 64 → ∃ σ', f_X7_within σ2 (nI A) (nI f) (nI t) = some (Int64.ofInt (zs (Gt (Ln n w) A f t) n), σ') ∧ FrV σ2 σ' ∧ V6 σ' 52 (Gt (Ln n w) A f t) := fun σ2 C2 A hA => by
          obtain ⟨σ', q1, q2, q3⟩ := f_within_yes (A := A) (f := f) (t := t) C2.2.2.2 hl (LnN hn) (L_b9 cw) (by omega) (by omega) ht
          rw [Gt_6 hn hf] at q1
          exact ⟨σ', q1, q2, q3⟩
        have fin : ∀ σ2, FrV σ1 σ2 → Inv σ2 := fun σ2 f2 => ⟨n, w, H, c, len, P1.sm (f2.sm g2.2)⟩
        rcases (show k = 0 ∨ k = 1 ∨ k = 2 by omega) with rfl | rfl | rfl
        · obtain ⟨σ2, q1, q2, q3⟩ := wth σ1 C1 (2 ^ n - 1) (by omega)
          refine ⟨_, σ1, σ2, e6, e7 _ ?_, fin σ2 q2⟩
          rw [if_neg (by decide), q1, Option.bind_some, if_pos (show nI 0 = 0 from rfl), cs_0 cw hf]
        · obtain ⟨σ2, q1, q2, q3⟩ := wth σ1 C1 (2 ^ n - 1) (by omega)
          refine ⟨_, σ1, σ2, e6, e7 _ ?_, fin σ2 q2⟩
          rw [if_neg (by decide), q1, Option.bind_some, if_neg (show ¬ nI 1 = 0 by decide), gd_h (okI_nI (by omega) (by omega)), nI_clamp (by omega), q3 f (by omega), cs_1 cw hf]
        · have key := wl_inv (body := fun a : Int64 × Int32 × Sg => f_X7_walks_B83 (nI f) (nI t) (nI (2 ^ n - 1)) a.1 a.2.1 a.2.2) (N := 2 ^ n - 1) (I := fun i (a : Int64 × Int32 × Sg) => a.1 = Int64.ofInt (zs (fun A => if A.testBit f = true then sg n A * zs (Gt (Ln n w) A f t) n else 0) (i + 1)) ∧ a.2.1 = nI (i + 1) ∧ FrV σ1 a.2.2) (Post := fun b : Int64 × Sg => b.1 = Int64.ofInt (cs n f 2 (Ht n w f t)) ∧ FrV σ1 b.2) (fun i a hi hI => ?_) FU 0 ((0 : Int64), (1 : Int32), σ1) ⟨?_, rfl, Fr.rf⟩ (Nat.zero_le _) (FU_big (by omega))
          · obtain ⟨⟨r, σ2⟩, m1, m2, m3⟩ := key
            dsimp only at m2 m3
            subst m2
            refine ⟨_, σ1, σ2, e6, e7 _ ?_, fin σ2 m3⟩
            rw [if_pos (by decide), m1, Option.bind_some]
          · obtain ⟨a, b, σ2⟩ := a
            obtain ⟨ha, hb, hF⟩ := hI
            dsimp only at ha hb hF ⊢
            subst ha
            subst hb
            have C2 : Cur σ2 n w := (P1.sm (hF.sm g2.2)).1
            by_cases he : i = 2 ^ n - 1
            · refine ⟨.inr (Int64.ofInt (cs n f 2 (Ht n w f t)), σ2), ?_, Or.inr ⟨_, rfl, rfl, hF⟩⟩
              unfold f_X7_walks_B83
              rw [if_pos (nI_lt (by omega) (by omega)), ← incl cw hf, he, show 2 ^ n - 1 + 1 = 2 ^ n by omega]
            · have hlt : i < 2 ^ n - 1 := by omega
              have hc : cnt (i + 1) ≤ n := by
                have := cnt_le (L := List.range n) (s := i + 1) (by simp; omega) (by simp; omega)
                simpa using this
              have hs : zs (fun A => if A.testBit f = true then sg n A * zs (Gt (Ln n w) A f t) n else 0) (i + 1 + 1) = zs (fun A => if A.testBit f = true then sg n A * zs (Gt (Ln n w) A f t) n else 0) (i + 1) + (if (i + 1).testBit f = true then sg n (i + 1) * zs (Gt (Ln n w) (i + 1) f t) n else 0) := rfl
              have hbit : (nI (i + 1) >>> (nI f &&& 31)) &&& (1 : Int32) = if (i + 1).testBit f = true then 1 else 0 := by
                rw [sh_r (by omega) (by omega), and1]
                have e1 : ((i + 1) / 2 ^ f % 2 = 1) ↔ (i + 1).testBit f = true := by
                  have := Nat.testBit_zero ((i + 1) / 2 ^ f)
                  rw [Nat.testBit_div_two_pow, Nat.zero_add] at this
                  rw [this, decide_eq_true_iff]
                by_cases q : (i + 1).testBit f = true
                · rw [if_pos q, e1.mpr q]
                  rfl
                · rw [if_neg q, show (i + 1) / 2 ^ f % 2 = 0 by have := mt e1.mp q; omega]
                  rfl
              rw [show i + 1 + 1 = i + 1 + 1 from rfl]
              by_cases q : (i + 1).testBit f = true
              · obtain ⟨σ3, q1, q2, q3⟩ := wth σ2 C2 (i + 1) (by omega)
                rw [if_pos q] at hbit hs
                refine ⟨.inl (Int64.ofInt (zs (fun A => if A.testBit f = true then sg n A * zs (Gt (Ln n w) A f t) n else 0) (i + 1 + 1)), nI (i + 1 + 1), σ3), ?_, Or.inl ⟨_, rfl, hlt, rfl, rfl, hF.tr q2⟩⟩
                unfold f_X7_walks_B83
                rw [if_neg (nI_nlt (by omega) (by omega)), hbit, if_pos rfl, f_ones_yes (by omega), Option.bind_some, C2.2.2.1, pk_sub hc, rem2 _ (by omega), hs]
                unfold sg
                by_cases ev : (n - cnt (i + 1)) % 2 = 0
                · rw [if_pos (by rw [ev]; rfl), if_pos ev, q1, Option.bind_some, vl_e, vl_e, nI_1, ← Int64.ofInt_add, Int.one_mul]
                · rw [if_neg (by rw [show (n - cnt (i + 1)) % 2 = 1 by omega]; decide), if_neg ev, q1, Option.bind_some, vl_e, vl_e, nI_1, ← Int64.ofInt_neg, ← Int64.ofInt_add, Int.neg_one_mul]
              · rw [if_neg q] at hbit hs
                refine ⟨.inl (Int64.ofInt (zs (fun A => if A.testBit f = true then sg n A * zs (Gt (Ln n w) A f t) n else 0) (i + 1 + 1)), nI (i + 1 + 1), σ2), ?_, Or.inl ⟨_, rfl, hlt, rfl, rfl, hF⟩⟩
                unfold f_X7_walks_B83
                rw [if_neg (nI_nlt (by omega) (by omega)), hbit, if_neg (by decide), vl_e, nI_1, hs, Int.add_zero]
          · show (0 : Int64) = Int64.ofInt (0 + (if Nat.testBit 0 f = true then sg n 0 * zs (Gt (Ln n w) 0 f t) n else 0))
            rw [Nat.zero_testBit, if_neg (by decide)]
            rfl
