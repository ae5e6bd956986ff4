/-! walks: the class's table -/
def zs (f : Nat → Int) : Nat → Int
  | 0 => 0
  | k + 1 => zs f k + f k
theorem zs_congr {f g : Nat → Int} : ∀ n, (∀ x, x < n → f x = g x) → zs f n = zs g n
  | 0, _ => rfl
  | n + 1, h => by
    show zs f n + f n = zs g n + g n
    rw [zs_congr n (fun x hx => h x (by omega)), h n (by omega)]
theorem zs_zero : ∀ n, zs (fun _ => 0) n = 0
  | 0 => rfl
  | n + 1 => by
    show zs (fun _ => 0) n + 0 = 0
    rw [zs_zero n]
    rfl
theorem zs_add (f g : Nat → Int) : ∀ n, zs (fun x => f x + g x) n = zs f n + zs g n
  | 0 => rfl
  | n + 1 => by
    show zs (fun x => f x + g x) n + (f n + g n) = (zs f n + f n) + (zs g n + g n)
    rw [zs_add f g n]
    omega
theorem zs_mul (c : Int) (f : Nat → Int) : ∀ n, zs (fun x => c * f x) n = c * zs f n
  | 0 => by
    show (0 : Int) = c * 0
    rw [Int.mul_zero]
  | n + 1 => by
    show zs (fun x => c * f x) n + c * f n = c * (zs f n + f n)
    rw [zs_mul c f n, Int.mul_add]
theorem zs_comm (f : Nat → Nat → Int) (m : Nat) : ∀ n, zs (fun x => zs (f x) m) n = zs (fun y => zs (fun x => f x y) n) m
  | 0 => (zs_zero m).symm
  | n + 1 => by
    show zs (fun x => zs (f x) m) n + zs (f n) m = zs (fun y => zs (fun x => f x y) n + f n y) m
    rw [zs_add, zs_comm f m n]
theorem zs_point {k M : Nat} (hk : k < M) (p : Nat → Bool) (x : Int) : zs (fun y => if p y = true then (if k = y then x else 0) else 0) M = if p k = true then x else 0 := by
  have key : ∀ M, zs (fun y => if p y = true then (if k = y then x else 0) else 0) M = if k < M then (if p k = true then x else 0) else 0 := by
    intro M
    induction M with
    | zero => rfl
    | succ M ih =>
      show zs (fun y => if p y = true then (if k = y then x else 0) else 0) M + (if p M = true then (if k = M then x else 0) else 0) = _
      rw [ih]
      by_cases c : k = M
      · subst c
        rw [if_neg (by omega), if_pos rfl, if_pos (show k < k + 1 by omega), Int.zero_add]
      · rw [if_neg c]
        have e0 : (if p M = true then (0 : Int) else 0) = 0 := by split <;> rfl
        rw [e0, Int.add_zero]
        by_cases c2 : k < M
        · rw [if_pos c2, if_pos (show k < M + 1 by omega)]
        · rw [if_neg c2, if_neg (show ¬ k < M + 1 by omega)]
  rw [key, if_pos hk]
theorem f_fillJ_yes {σ : Sg} {q : Nat} {x : Int64} (hq2 : lenJ q < 5000) : ∃ σ', f_J7_fill_d0a16 σ q x = some σ' ∧ Fr [] [] [q] σ σ' ∧ ∀ i, i < lenJ q → gJ σ' q i = x := by
  unfold f_J7_fill_d0a16
  rw [vl_e]
  have key := wl_inv (body := fun a : Int32 × Sg => f_J7_fill_d0a16_B6 q x (nI (lenJ q)) a.1 a.2) (N := lenJ q) (I := fun i (a : Int32 × Sg) => a.1 = nI i ∧ Fr [] [] [q] σ a.2 ∧ ∀ j, j < i → gJ a.2 q j = x) (Post := fun b => Fr [] [] [q] σ b ∧ ∀ j, j < lenJ q → gJ b q j = x) (fun i a hi hI => ?_) FU 0 ((0 : Int32), σ) ⟨rfl, Fr.rf, fun j hj => by omega⟩ (Nat.zero_le _) (FU_big (by omega))
  · obtain ⟨σ', h1, h2, h3⟩ := key
    rw [h1]
    exact ⟨σ', rfl, h2, h3⟩
  · obtain ⟨y, σ1⟩ := a
    obtain ⟨hx, hF, hH⟩ := hI
    dsimp only at hx hF hH ⊢
    subst hx
    unfold f_J7_fill_d0a16_B6
    by_cases he : i = lenJ q
    · subst he
      exact ⟨.inr σ1, by rw [if_pos (nI_le (Nat.le_refl _) (by omega))], Or.inr ⟨σ1, rfl, hF, hH⟩⟩
    · refine ⟨_, by rw [if_neg (nI_ge (show i < lenJ q by omega) (by omega)), gd_h (okI_nI (by omega) (by omega)), vl_e, vl_e, nI_1, nI_clamp (by omega)], Or.inl ⟨_, rfl, by omega, rfl, hF.tr (Fr.pJ (List.mem_singleton.mpr rfl)), fun j hj => ?_⟩⟩
      dsimp only
      rw [gJ_pJ, if_pos rfl, updL_at]
      by_cases hji : j = i
      · rw [if_pos hji]
      · rw [if_neg hji]
        exact hH j (by omega)
def WT (σ : Sg) (c n : Nat) (H : Nat → Nat → Int) : Prop := ∀ v m, v < n → m < 64 → gJ σ c (v * 64 + m) = Int64.ofInt (H v m)
abbrev FrW (b : Nat) (σ σ' : Sg) : Prop := Fr [] [] [b] σ σ'
theorem FrW.net {b k n : Nat} {σ σ' : Sg} {w : Nat → Nat → Nat} (h : FrW b σ σ') (hN : NetAt σ k n w) : NetAt σ' k n w := hN.cg (h.1 _ List.not_mem_nil) (h.1 _ List.not_mem_nil) (h.2.1 _ List.not_mem_nil) (h.2.1 _ List.not_mem_nil) (h.2.1 _ List.not_mem_nil)
theorem WT.cg {σ : Sg} {c n : Nat} {H H' : Nat → Nat → Int} (h : WT σ c n H) (e : ∀ v m, v < n → m < 64 → H v m = H' v m) : WT σ c n H' := fun v m hv hm => by rw [h v m hv hm, e v m hv hm]
theorem il_64 : (64 : Int32) = nI 64 := rfl
theorem or_lt64 {n m v : Nat} (hn : n ≤ 6) (hm : m < 2 ^ n) (hv : v < n) : m ||| 2 ^ v < 2 ^ n := Nat.or_lt_two_pow hm (Nat.pow_lt_pow_right (by omega) hv)
theorem nI_oI (a : Nat) (h : a < 2 ^ 31) : (nI a).toInt64 = Int64.ofInt (a : Int) := by rw [nI_64 h, lN_of]
theorem f_spread_yes {σ : Sg} {b n u m : Nat} {h : Int} {w : Nat → Nat → Nat} {N : Nat → Nat → Int} (hw : wok n w) (hN : NetAt σ 0 n w) (hb : gR σ 1 = b) (hlb : lenJ b = 384) (hu : u < n) (hm : m < 2 ^ n) (hW : WT σ b n N) : ∃ σ', f_X5_spread σ 0 (nI u) (nI m) (Int64.ofInt h) = some σ' ∧ FrW b σ σ' ∧ WT σ' b n (fun v m' => N v m' + (if m ||| 2 ^ v = m' then h * (w u v : Int) else 0)) := by
  have hn := hw.2.1
  have hp : 2 ^ n ≤ 64 := Nat.pow_le_pow_right (show 0 < 2 by omega) hn
  unfold f_X5_spread
  have key := wl_inv (body := fun a : Int32 × Sg => f_X5_spread_B3 0 (nI u) (nI m) (Int64.ofInt h) a.1 a.2) (N := n) (I := fun i (a : Int32 × Sg) => a.1 = nI i ∧ FrW b σ a.2 ∧ WT a.2 b n (fun v m' => N v m' + (if v < i ∧ m ||| 2 ^ v = m' then h * (w u v : Int) else 0))) (Post := fun q => FrW b σ q ∧ WT q b n (fun v m' => N v m' + (if m ||| 2 ^ v = m' then h * (w u v : Int) else 0))) (fun i a hi hI => ?_) FU 0 ((0 : Int32), σ) ⟨rfl, Fr.rf, hW.cg (fun v m' _ _ => by rw [if_neg (by omega), Int.add_zero])⟩ (Nat.zero_le _) (FU_big (by omega))
  · obtain ⟨σ', k1, k2, k3⟩ := key
    rw [k1]
    exact ⟨σ', rfl, k2, k3⟩
  · obtain ⟨x, σ1⟩ := a
    obtain ⟨hx, hF, hS⟩ := hI
    dsimp only at hx hF hS ⊢
    subst hx
    have hN1 := hF.net hN
    have hb1 : gR σ1 1 = b := (hF.2.2.2 1).trans hb
    have h4 : gI σ1 (4 + 2 * 0) = nI n := hN1.1
    by_cases he : i = n
    · subst he
      refine ⟨.inr σ1, ?_, Or.inr ⟨σ1, rfl, hF, hS.cg (fun v m' hv _ => ?_)⟩⟩
      · unfold f_X5_spread_B3
        rw [h4, if_pos (nI_le (Nat.le_refl _) (by omega))]
      · by_cases c : m ||| 2 ^ v = m'
        · rw [if_pos ⟨hv, c⟩, if_pos c]
        · rw [if_neg (fun q => c q.2), if_neg c]
    · have hlt : i < n := by omega
      have ho := or_lt64 hn hm hlt
      have h9 := hw.2.2.2.2.1 u i
      have hcell := hS i (m ||| 2 ^ i) hlt (by omega)
      dsimp only at hcell
      rw [if_neg (by omega), Int.add_zero] at hcell
      refine ⟨.inl (nI (i + 1), pJ σ1 b (i * 64 + (m ||| 2 ^ i)) (Int64.ofInt (N i (m ||| 2 ^ i) + h * (w u i : Int)))), ?_, Or.inl ⟨_, rfl, hlt, rfl, hF.tr (Fr.pJ (List.mem_singleton.mpr rfl)), fun v m' hv hm' => ?_⟩⟩
      · unfold f_X5_spread_B3
        rw [h4, if_neg (nI_ge hlt (by omega)), sh_1 _ (by omega), nx_or, il_64, pk_mul, nI_add, vl_e, hb1, hlb, gd_h (by decide), if_neg (nI_ge (by omega) (by omega)), gd_h (okI_nI (by omega) (by omega)), f_widthAt_yes hN1 hn hu hlt, Option.bind_some, nI_clamp (by omega), hcell, nI_oI _ (by omega), ← Int64.ofInt_mul, ← Int64.ofInt_add, vl_e, gd_h (okI_nI (by omega) (by omega)), vl_e, vl_e, nI_1]
      · dsimp only
        rw [gJ_pJ, if_pos rfl, updL_at]
        by_cases c : v = i ∧ m ||| 2 ^ v = m'
        · obtain ⟨rfl, rfl⟩ := c
          rw [if_pos rfl, if_pos ⟨by omega, rfl⟩]
        · have hne : ¬ v * 64 + m' = i * 64 + (m ||| 2 ^ i) := fun q => by
            have e1 : v = i := by omega
            subst e1
            exact c ⟨rfl, by omega⟩
          rw [if_neg hne, hS v m' hv hm']
          dsimp only
          by_cases c2 : v < i ∧ m ||| 2 ^ v = m'
          · rw [if_pos c2, if_pos ⟨by omega, c2.2⟩]
          · rw [if_neg c2, if_neg (fun q => c ⟨by omega, q.2⟩)]
/-- one step -/
def cn1 (w : Nat → Nat → Nat) (H : Nat → Nat → Int) (u v m' m : Nat) : Int := if m ||| 2 ^ v = m' then H u m * (w u v : Int) else 0
theorem f_steprow_yes {σ : Sg} {a b n u : Nat} {w : Nat → Nat → Nat} {H N : Nat → Nat → Int} (hw : wok n w) (hN : NetAt σ 0 n w) (ha : gR σ 0 = a) (hb : gR σ 1 = b) (hab : a ≠ b) (hla : lenJ a = 384) (hlb : lenJ b = 384) (hu : u < n) (hA : WT σ a n H) (hW : WT σ b n N) : ∃ σ', wl (fun q : Int32 × Sg => f_X5_step_B20 0 (nI u) q.1 q.2) FU ((0 : Int32), σ) = some σ' ∧ (FrW b σ σ' ∧ WT σ' b n (fun v m' => N v m' + zs (cn1 w H u v m') (2 ^ n))) := by
  have hn := hw.2.1
  have hp : 2 ^ n ≤ 64 := Nat.pow_le_pow_right (show 0 < 2 by omega) hn
  refine wl_inv (N := 2 ^ n) (I := fun i (q : Int32 × Sg) => q.1 = nI i ∧ FrW b σ q.2 ∧ WT q.2 b n (fun v m' => N v m' + zs (cn1 w H u v m') i)) (fun i q hi hI => ?_) FU 0 ((0 : Int32), σ) ⟨rfl, Fr.rf, hW.cg (fun v m' _ _ => by rw [show zs (cn1 w H u v m') 0 = 0 from rfl, Int.add_zero])⟩ (Nat.zero_le _) (FU_big (by omega))
  obtain ⟨x, σ1⟩ := q
  obtain ⟨hx, hF, hS⟩ := hI
  dsimp only at hx hF hS ⊢
  subst hx
  have hN1 := hF.net hN
  have ha1 : gR σ1 0 = a := (hF.2.2.2 0).trans ha
  have hb1 : gR σ1 1 = b := (hF.2.2.2 1).trans hb
  have h4 : gI σ1 (4 + 2 * 0) = nI n := hN1.1
  by_cases he : i = 2 ^ n
  · subst he
    refine ⟨.inr σ1, ?_, Or.inr ⟨σ1, rfl, hF, hS⟩⟩
    unfold f_X5_step_B20
    rw [h4, sh_1 _ (by omega), if_pos (nI_le (Nat.le_refl _) (by omega))]
  · have hlt : i < 2 ^ n := by omega
    have hcell : gJ σ1 a (u * 64 + i) = Int64.ofInt (H u i) := by
      rw [hF.2.2.1 a (by simp; exact hab)]
      exact hA u i hu (by omega)
    by_cases hz : Int64.ofInt (H u i) = 0
    · refine ⟨.inl (nI (i + 1), σ1), ?_, Or.inl ⟨_, rfl, hlt, rfl, hF, fun v m' hv hm' => ?_⟩⟩
      · unfold f_X5_step_B20
        rw [h4, sh_1 _ (by omega), if_neg (nI_ge hlt (by omega)), il_64, pk_mul, nI_add, ha1, hla, gd_h (okI_nI (by omega) (by omega)), nI_clamp (by omega), hcell, vl_e, if_pos hz, vl_e, nI_1]
      · dsimp only
        rw [hS v m' hv hm']
        show Int64.ofInt (N v m' + zs (cn1 w H u v m') i) = Int64.ofInt (N v m' + (zs (cn1 w H u v m') i + cn1 w H u v m' i))
        have e0 : Int64.ofInt (cn1 w H u v m' i) = 0 := by
          unfold cn1
          split
          · rw [Int64.ofInt_mul, hz, Int64.zero_mul]
          · rfl
        rw [← Int.add_assoc, Int64.ofInt_add _ (cn1 w H u v m' i), e0, Int64.add_zero]
    · obtain ⟨σ2, s1, s2, s3⟩ := f_spread_yes (σ := σ1) (b := b) (m := i) (h := H u i) hw hN1 hb1 hlb hu hlt hS
      refine ⟨.inl (nI (i + 1), σ2), ?_, Or.inl ⟨_, rfl, hlt, rfl, hF.tr s2, s3.cg (fun v m' _ _ => ?_)⟩⟩
      · unfold f_X5_step_B20
        rw [h4, sh_1 _ (by omega), if_neg (nI_ge hlt (by omega)), il_64, pk_mul, nI_add, ha1, hla, gd_h (okI_nI (by omega) (by omega)), nI_clamp (by omega), hcell, vl_e, if_neg hz, s1, Option.bind_some, vl_e, nI_1]
      · show N v m' + zs (cn1 w H u v m') i + _ = N v m' + (zs (cn1 w H u v m') i + cn1 w H u v m' i)
        unfold cn1
        omega
def stp (n : Nat) (w : Nat → Nat → Nat) (H : Nat → Nat → Int) (v m' : Nat) : Int := zs (fun u => zs (cn1 w H u v m') (2 ^ n)) n
theorem lenW {a : Nat} (h : a = 37 ∨ a = 38) : lenJ a = 384 := by rcases h with rfl | rfl <;> rfl
theorem f_step_yes {σ : Sg} {n : Nat} {w : Nat → Nat → Nat} {H : Nat → Nat → Int} (hw : wok n w) (hN : NetAt σ 0 n w) (hR : WR σ) (hA : WT σ (gR σ 0) n H) : ∃ σ', f_X5_step σ 0 = some σ' ∧ ((∀ i, gI σ' i = gI σ i) ∧ (∀ c, gA σ' c = gA σ c) ∧ (∀ c, c ∉ [37, 38] → gJ σ' c = gJ σ c)) ∧ WR σ' ∧ WT σ' (gR σ' 0) n (stp n w H) := by
  have hn := hw.2.1
  have ha : gR σ 0 = 37 ∨ gR σ 0 = 38 := by rcases hR with q | q <;> simp [q.1]
  have hb : gR σ 1 = 37 ∨ gR σ 1 = 38 := by rcases hR with q | q <;> simp [q.2]
  have hab : gR σ 0 ≠ gR σ 1 := by rcases hR with q | q <;> rw [q.1, q.2] <;> decide
  have hla := lenW ha
  have hlb := lenW hb
  obtain ⟨σ1, f1, f2, f3⟩ := f_fillJ_yes (σ := σ) (q := gR σ 1) (x := 0) (by omega)
  have ga1 : gR σ1 0 = gR σ 0 := f2.2.2.2 0
  have gb1 : gR σ1 1 = gR σ 1 := f2.2.2.2 1
  have W1 : WT σ1 (gR σ 1) n (fun _ _ => 0) := fun v m hv hm => f3 _ (by omega)
  have key := wl_inv (body := fun q : Int32 × Sg => f_X5_step_B10 0 q.1 q.2) (N := n) (I := fun i (q : Int32 × Sg) => q.1 = nI i ∧ FrW (gR σ 1) σ q.2 ∧ WT q.2 (gR σ 1) n (fun v m' => zs (fun u => zs (cn1 w H u v m') (2 ^ n)) i)) (Post := fun q => FrW (gR σ 1) σ q ∧ WT q (gR σ 1) n (stp n w H)) (fun i q hi hI => ?_) FU 0 ((0 : Int32), σ1) ⟨rfl, f2, W1⟩ (Nat.zero_le _) (FU_big (by omega))
  · obtain ⟨σ2, k1, k2, k3⟩ := key
    refine ⟨pR (pR σ2 0 (gR σ2 1)) 1 (gR σ2 0), ?_, ⟨fun i => k2.1 i List.not_mem_nil, fun c => k2.2.1 c List.not_mem_nil, fun c hc => k2.2.2.1 c (by
      simp at hc ⊢
      rcases hb with q | q <;> rw [q] <;> omega)⟩, ?_, ?_⟩
    · unfold f_X5_step
      rw [gd_h (by rw [hlb]; decide), f1, Option.bind_some, k1, Option.bind_some, vl_e, vl_e]
    · have e0 : gR σ2 0 = gR σ 0 := k2.2.2.2 0
      have e1 : gR σ2 1 = gR σ 1 := k2.2.2.2 1
      unfold WR
      rw [gR_pR, gR_pR, gR_pR, if_neg (by decide), if_pos rfl, if_pos rfl, e0, e1]
      rcases hR with q | q
      · exact Or.inr ⟨q.2, q.1⟩
      · exact Or.inl ⟨q.2, q.1⟩
    · have e1 : gR σ2 1 = gR σ 1 := k2.2.2.2 1
      rw [gR_pR, if_neg (by decide), gR_pR, if_pos rfl, e1]
      exact k3
  · obtain ⟨x, σ2⟩ := q
    obtain ⟨hx, hF, hS⟩ := hI
    dsimp only at hx hF hS ⊢
    subst hx
    have hN2 := hF.net hN
    have h4 : gI σ2 (4 + 2 * 0) = nI n := hN2.1
    by_cases he : i = n
    · subst he
      refine ⟨.inr σ2, ?_, Or.inr ⟨σ2, rfl, hF, hS⟩⟩
      unfold f_X5_step_B10
      rw [h4, if_pos (nI_le (Nat.le_refl _) (by omega))]
    · have hlt : i < n := by omega
      have hA2 : WT σ2 (gR σ 0) n H := fun v m hv hm => by
        rw [hF.2.2.1 _ (by simp; exact hab)]
        exact hA v m hv hm
      obtain ⟨σ3, s1, s2, s3⟩ := f_steprow_yes (σ := σ2) hw hN2 (hF.2.2.2 0) (hF.2.2.2 1) hab hla hlb hlt hA2 hS
      refine ⟨.inl (nI (i + 1), σ3), ?_, Or.inl ⟨_, rfl, hlt, rfl, hF.tr s2, s3⟩⟩
      unfold f_X5_step_B10
      rw [h4, if_neg (nI_ge hlt (by omega)), s1, Option.bind_some, vl_e, nI_1]
