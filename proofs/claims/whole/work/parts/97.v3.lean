/-! walks: the reference -/
def lz (f : Nat × Nat × Nat → Int) : List (Nat × Nat × Nat) → Int
  | [] => 0
  | e :: L => f e + lz f L
theorem lz_app (f : Nat × Nat × Nat → Int) : ∀ A B, lz f (A ++ B) = lz f A + lz f B
  | [], B => by simp [lz]
  | e :: A, B => by
    show f e + lz f (A ++ B) = f e + lz f A + lz f B
    rw [lz_app f A B]
    omega
theorem lz_take (f : Nat × Nat × Nat → Int) (L : List (Nat × Nat × Nat)) (i : Nat) (e : Nat × Nat × Nat) (h : L[i]? = some e) : lz f (L.take (i + 1)) = lz f (L.take i) + f e := by
  rw [List.take_succ, h, lz_app]
  show lz f (L.take i) + (f e + 0) = _
  omega
def lc (A : Nat) (G : Nat → Int) (x : Nat) (e : Nat × Nat × Nat) : Int := if (A.testBit e.1 && A.testBit e.2.1) = true then (if e.1 = x then G e.2.1 * (e.2.2 : Int) else 0) + (if e.2.1 = x then G e.1 * (e.2.2 : Int) else 0) else 0
def Gt (L : List (Nat × Nat × Nat)) (A f : Nat) : Nat → Nat → Int
  | 0, x => if x = f then 1 else 0
  | t + 1, x => lz (lc A (Gt L A f t) x) L
abbrev FrV (σ σ' : Sg) : Prop := Fr [] [] [52, 53] σ σ'
def V6 (σ : Sg) (c : Nat) (G : Nat → Int) : Prop := ∀ x, x < 6 → gJ σ c x = Int64.ofInt (G x)
theorem bits2 {A a b : Nat} (hA : A < 2 ^ 31) (ha : a < 32) (hb : b < 32) : ((nI A >>> (nI a &&& 31)) &&& (nI A >>> (nI b &&& 31))) &&& (1 : Int32) = if (A.testBit a && A.testBit b) = true then 1 else 0 := by
  rw [sh_r hA ha, sh_r hA hb, nx_and, and1]
  have e1 : ((A / 2 ^ a &&& A / 2 ^ b) % 2 = 1) ↔ (A.testBit a && A.testBit b) = true := by
    have := Nat.testBit_zero (A / 2 ^ a &&& A / 2 ^ b)
    rw [Nat.testBit_and, Nat.testBit_div_two_pow, Nat.testBit_div_two_pow, Nat.zero_add, Nat.zero_add] at this
    rw [this, decide_eq_true_iff]
  by_cases c : (A.testBit a && A.testBit b) = true
  · rw [if_pos c, e1.mpr c]
    rfl
  · rw [if_neg c, show (A / 2 ^ a &&& A / 2 ^ b) % 2 = 0 by have := mt e1.mp c; omega]
    rfl
theorem v_init {σ : Sg} {f : Nat} (hf : f < 6) : ∃ σ', wl (fun a : Int32 × Sg => f_X7_within_B3 (nI f) a.1 a.2) FU ((0 : Int32), σ) = some σ' ∧ (FrV σ σ' ∧ V6 σ' 52 (fun x => if x = f then 1 else 0)) := by
  refine wl_inv (N := 6) (I := fun i (a : Int32 × Sg) => a.1 = nI i ∧ FrV σ a.2 ∧ ∀ x, x < i → gJ a.2 52 x = Int64.ofInt (if x = f then 1 else 0)) (fun i a hi hI => ?_) FU 0 ((0 : Int32), σ) ⟨rfl, Fr.rf, fun x hx => by omega⟩ (Nat.zero_le _) (FU_big (by omega))
  obtain ⟨y, σ1⟩ := a
  obtain ⟨hy, hF, hA⟩ := hI
  dsimp only at hy hF hA ⊢
  subst hy
  by_cases he : i = 6
  · subst he
    refine ⟨.inr σ1, ?_, Or.inr ⟨σ1, rfl, hF, hA⟩⟩
    unfold f_X7_within_B3
    rw [il_6, if_pos (nI_le (Nat.le_refl _) (by omega))]
  · refine ⟨.inl (nI (i + 1), pJ σ1 52 i (Int64.ofInt (if i = f then 1 else 0))), ?_, Or.inl ⟨_, rfl, by omega, rfl, hF.tr (Fr.pJ (by simp)), fun x hx => ?_⟩⟩
    · unfold f_X7_within_B3
      rw [il_6, if_neg (nI_ge (show i < 6 by omega) (by omega)), gd_h (okI_nI (by omega) (by omega)), gd_h (okI_nI (by omega) (by omega)), nI_clamp (by omega)]
      by_cases c : i = f
      · rw [if_pos (show nI i = nI f by rw [c]), if_pos c, vl_e, vl_e, nI_1]
        rfl
      · rw [if_neg (show ¬ nI i = nI f by rw [nI_eq (by omega) (by omega)]; exact c), if_neg c, vl_e, vl_e, nI_1]
        rfl
    · dsimp only
      rw [gJ_pJ, if_pos rfl, updL_at]
      by_cases c : x = i
      · rw [if_pos c, c]
      · rw [if_neg c]
        exact hA x (by omega)
theorem v_zero {σ : Sg} : ∃ σ', wl (fun a : Int32 × Sg => f_X7_within_B46 a.1 a.2) FU ((0 : Int32), σ) = some σ' ∧ (Fr [] [] [53] σ σ' ∧ V6 σ' 53 (fun _ => 0)) := by
  refine wl_inv (N := 6) (I := fun i (a : Int32 × Sg) => a.1 = nI i ∧ Fr [] [] [53] σ a.2 ∧ ∀ x, x < i → gJ a.2 53 x = Int64.ofInt 0) (fun i a hi hI => ?_) FU 0 ((0 : Int32), σ) ⟨rfl, Fr.rf, fun x hx => by omega⟩ (Nat.zero_le _) (FU_big (by omega))
  obtain ⟨y, σ1⟩ := a
  obtain ⟨hy, hF, hA⟩ := hI
  dsimp only at hy hF hA ⊢
  subst hy
  unfold f_X7_within_B46
  rw [il_6]
  by_cases he : i = 6
  · subst he
    exact ⟨.inr σ1, by rw [if_pos (nI_le (Nat.le_refl _) (by omega))], Or.inr ⟨σ1, rfl, hF, hA⟩⟩
  · refine ⟨.inl (nI (i + 1), pJ σ1 53 i 0), ?_, Or.inl ⟨_, rfl, by omega, rfl, hF.tr (Fr.pJ (by simp)), fun x hx => ?_⟩⟩
    · rw [if_neg (nI_ge (show i < 6 by omega) (by omega)), gd_h (okI_nI (by omega) (by omega)), nI_clamp (by omega), vl_e, vl_e, nI_1]
    · dsimp only
      rw [gJ_pJ, if_pos rfl, updL_at]
      by_cases c : x = i
      · rw [if_pos c]
        rfl
      · rw [if_neg c]
        exact hA x (by omega)
theorem v_copy {σ : Sg} {G : Nat → Int} (h : V6 σ 53 G) : ∃ σ', wl (fun a : Int32 × Sg => f_X7_within_B184 a.1 a.2) FU ((0 : Int32), σ) = some σ' ∧ (Fr [] [] [52] σ σ' ∧ V6 σ' 52 G) := by
  refine wl_inv (N := 6) (I := fun i (a : Int32 × Sg) => a.1 = nI i ∧ Fr [] [] [52] σ a.2 ∧ ∀ x, x < i → gJ a.2 52 x = Int64.ofInt (G x)) (fun i a hi hI => ?_) FU 0 ((0 : Int32), σ) ⟨rfl, Fr.rf, fun x hx => by omega⟩ (Nat.zero_le _) (FU_big (by omega))
  obtain ⟨y, σ1⟩ := a
  obtain ⟨hy, hF, hA⟩ := hI
  dsimp only at hy hF hA ⊢
  subst hy
  unfold f_X7_within_B184
  rw [il_6]
  by_cases he : i = 6
  · subst he
    exact ⟨.inr σ1, by rw [if_pos (nI_le (Nat.le_refl _) (by omega))], Or.inr ⟨σ1, rfl, hF, hA⟩⟩
  · have e53 : gJ σ1 53 i = Int64.ofInt (G i) := by rw [hF.2.2.1 53 (by simp)]; exact h i (by omega)
    refine ⟨.inl (nI (i + 1), pJ σ1 52 i (Int64.ofInt (G i))), ?_, Or.inl ⟨_, rfl, by omega, rfl, hF.tr (Fr.pJ (by simp)), fun x hx => ?_⟩⟩
    · rw [if_neg (nI_ge (show i < 6 by omega) (by omega)), gd_h (okI_nI (by omega) (by omega)), nI_clamp (by omega), e53, vl_e, gd_h (okI_nI (by omega) (by omega)), vl_e, vl_e, nI_1]
    · dsimp only
      rw [gJ_pJ, if_pos rfl, updL_at]
      by_cases c : x = i
      · rw [if_pos c, c]
      · rw [if_neg c]
        exact hA x (by omega)
theorem v_lines {σ : Sg} {A : Nat} {L : List (Nat × Nat × Nat)} {G : Nat → Int} (h : RowAt σ 0 L) (hl : L.length ≤ 10) (hb : ∀ e ∈ L, e.1 < 6 ∧ e.2.1 < 6 ∧ e.1 ≠ e.2.1) (h9 : ∀ e ∈ L, e.2.2 ≤ 9) (hA : A < 2 ^ 31) (h52 : V6 σ 52 G) (h53 : V6 σ 53 (fun _ => 0)) : ∃ σ', wl (fun a : Int32 × Sg => f_X7_within_B70 (nI A) a.1 a.2) FU ((0 : Int32), σ) = some σ' ∧ (Fr [] [] [53] σ σ' ∧ V6 σ' 53 (fun x => lz (lc A G x) L)) := by
  refine wl_inv (N := L.length) (I := fun i (a : Int32 × Sg) => a.1 = nI i ∧ Fr [] [] [53] σ a.2 ∧ V6 a.2 53 (fun x => lz (lc A G x) (L.take i))) (fun i a hi hI => ?_) FU 0 ((0 : Int32), σ) ⟨rfl, Fr.rf, h53⟩ (Nat.zero_le _) (FU_big (by omega))
  obtain ⟨y, σ1⟩ := a
  obtain ⟨hy, hF, hV⟩ := hI
  dsimp only at hy hF hV ⊢
  subst hy
  have hr1 : RowAt σ1 0 L := frow hF (by simp) h
  by_cases he : i = L.length
  · subst he
    rw [List.take_length] at hV
    refine ⟨.inr σ1, ?_, Or.inr ⟨σ1, rfl, hF, hV⟩⟩
    unfold f_X7_within_B70
    rw [f_lines_yes hr1, Option.bind_some, if_pos (nI_le (Nat.le_refl _) (by omega))]
  · have hlt : i < L.length := by omega
    obtain ⟨e, hg⟩ : ∃ e, L[i]? = some e := ⟨_, List.getElem?_eq_getElem hlt⟩
    obtain ⟨r1, r2, r3⟩ := hr1.2 i e hg
    rw [Nat.zero_add] at r1 r2 r3
    have hbe := hb e (List.mem_of_getElem? hg)
    have h9e := h9 e (List.mem_of_getElem? hg)
    have G52 : ∀ x, x < 6 → gJ σ1 52 x = Int64.ofInt (G x) := fun x hx => by rw [hF.2.2.1 52 (by simp)]; exact h52 x hx
    have hb0 : f_X7_within_B70 (nI A) (nI i) σ1 = (if (A.testBit e.1 && A.testBit e.2.1) = true then some (.inl (nI (i + 1), pJ (pJ σ1 53 e.1 (gJ σ1 53 e.1 + gJ σ1 52 e.2.1 * (nI e.2.2).toInt64)) 53 e.2.1 (gJ (pJ σ1 53 e.1 (gJ σ1 53 e.1 + gJ σ1 52 e.2.1 * (nI e.2.2).toInt64)) 53 e.2.1 + gJ σ1 52 e.1 * (nI e.2.2).toInt64))) else some (.inl (nI (i + 1), σ1))) := by
      unfold f_X7_within_B70
      rw [f_lines_yes hr1, Option.bind_some, if_neg (nI_ge hlt (by omega)), il_1, il_11, il_21, nI_add, nI_add, nI_add, gd_h (okI_nI (by omega) (by omega)), nI_clamp (by omega), r1, vl_e, gd_h (okI_nI (by omega) (by omega)), nI_clamp (by omega), r2, vl_e, ← il_1, bits2 hA (by omega) (by omega)]
      by_cases c : (A.testBit e.1 && A.testBit e.2.1) = true
      · rw [if_pos c, if_pos rfl, if_pos c, gd_h (okI_nI (by omega) (by omega)), gd_h (okI_nI (by omega) (by omega)), gd_h (okI_nI (by omega) (by omega)), nI_clamp (by omega), nI_clamp (by omega), nI_clamp (by omega), r3, vl_e, gd_h (okI_nI (by omega) (by omega)), vl_e, gd_h (okI_nI (by omega) (by omega)), gd_h (okI_nI (by omega) (by omega)), gd_h (okI_nI (by omega) (by omega)), gA_pJ, r3, vl_e, gd_h (okI_nI (by omega) (by omega)), vl_e, vl_e, nI_1]
        rfl
      · rw [if_neg c, if_neg (by decide), if_neg c, vl_e, nI_1]
    by_cases c : (A.testBit e.1 && A.testBit e.2.1) = true
    · rw [if_pos c] at hb0
      refine ⟨_, hb0, Or.inl ⟨_, rfl, hlt, rfl, (hF.tr (Fr.pJ (by simp))).tr (Fr.pJ (by simp)), fun x hx => ?_⟩⟩
      dsimp only
      rw [lz_take _ _ _ _ hg]
      unfold lc
      rw [if_pos c, gJ_pJ, if_pos rfl, updL_at]
      have v1 := hV e.1 hbe.1
      have v2 := hV e.2.1 hbe.2.1
      have vx := hV x hx
      dsimp only at v1 v2 vx
      unfold lc at v1 v2 vx
      by_cases c1 : x = e.2.1
      · subst c1
        rw [if_pos rfl, if_neg hbe.2.2, if_pos rfl, gJ_pJ, if_pos rfl, updL_at, if_neg (fun q => hbe.2.2 q.symm), v2, G52 e.1 hbe.1, nI_oI _ (by omega), ← Int64.ofInt_mul, ← Int64.ofInt_add, Int.zero_add]
      · rw [if_neg c1, if_neg (show ¬ e.2.1 = x from fun q => c1 q.symm), gJ_pJ, if_pos rfl, updL_at]
        by_cases c2 : x = e.1
        · subst c2
          rw [if_pos rfl, if_pos rfl, v1, G52 e.2.1 hbe.2.1, nI_oI _ (by omega), ← Int64.ofInt_mul, ← Int64.ofInt_add, Int.add_zero]
        · rw [if_neg c2, if_neg (show ¬ e.1 = x from fun q => c2 q.symm), vx, Int.add_zero, Int.add_zero]
    · rw [if_neg c] at hb0
      refine ⟨_, hb0, Or.inl ⟨_, rfl, hlt, rfl, hF, fun x hx => ?_⟩⟩
      dsimp only
      rw [lz_take _ _ _ _ hg, hV x hx]
      have e0 : lc A G x e = 0 := by
        unfold lc
        rw [if_neg c]
      rw [e0, Int.add_zero]
theorem f_within_yes {σ : Sg} {A f t : Nat} {L : List (Nat × Nat × Nat)} (h : RowAt σ 0 L) (hl : L.length ≤ 10) (hb : ∀ e ∈ L, e.1 < 6 ∧ e.2.1 < 6 ∧ e.1 ≠ e.2.1) (h9 : ∀ e ∈ L, e.2.2 ≤ 9) (hA : A < 2 ^ 31) (hf : f < 6) (ht : t ≤ 6) : ∃ σ', f_X7_within σ (nI A) (nI f) (nI t) = some (Int64.ofInt (zs (Gt L A f t) 6), σ') ∧ FrV σ σ' ∧ V6 σ' 52 (Gt L A f t) := by
  obtain ⟨σ1, a1, a2, a3⟩ := v_init (σ := σ) hf
  have key := wl_inv (body := fun a : Int32 × Sg => f_X7_within_B37 (nI A) (nI t) a.1 a.2) (N := t) (I := fun i (a : Int32 × Sg) => a.1 = nI i ∧ FrV σ a.2 ∧ V6 a.2 52 (Gt L A f i)) (Post := fun q => FrV σ q ∧ V6 q 52 (Gt L A f t)) (fun i a hi hI => ?_) FU 0 ((0 : Int32), σ1) ⟨rfl, a2, a3⟩ (Nat.zero_le _) (FU_big (by omega))
  · obtain ⟨σ2, k1, k2, k3⟩ := key
    refine ⟨σ2, ?_, k2, k3⟩
    have key2 := wl_run (body := fun a : Int64 × Int32 => f_X7_within_B223 σ2 a.1 a.2) (fun i => (Int64.ofInt (zs (Gt L A f t) i), nI i)) 6 (b := Int64.ofInt (zs (Gt L A f t) 6)) (fun i hi => ?_) ?_ FU (FU_big (by omega))
    · unfold f_X7_within
      rw [a1, Option.bind_some, k1, Option.bind_some, show ((0 : Int64), (0 : Int32)) = (Int64.ofInt (zs (Gt L A f t) 0), nI 0) from rfl, key2, Option.bind_some]
    · dsimp only
      unfold f_X7_within_B223
      rw [il_6, if_neg (nI_ge hi (by omega)), gd_h (okI_nI (by omega) (by omega)), nI_clamp (by omega), k3 i hi, ← Int64.ofInt_add, vl_e, vl_e, nI_1]
      rfl
    · dsimp only
      unfold f_X7_within_B223
      rw [il_6, if_pos (nI_le (Nat.le_refl _) (by omega))]
  · obtain ⟨x, σ2⟩ := a
    obtain ⟨hx, hF, hV⟩ := hI
    dsimp only at hx hF hV ⊢
    subst hx
    by_cases he : i = t
    · subst he
      refine ⟨.inr σ2, ?_, Or.inr ⟨σ2, rfl, hF, hV⟩⟩
      unfold f_X7_within_B37
      rw [if_pos (nI_le (Nat.le_refl _) (by omega))]
    · have hlt : i < t := by omega
      obtain ⟨σ3, b1, b2, b3⟩ := v_zero (σ := σ2)
      have hr3 : RowAt σ3 0 L := frow b2 (by simp) (frow hF (by simp) h)
      have V3 : V6 σ3 52 (Gt L A f i) := fun x hx => by rw [b2.2.2.1 52 (by simp)]; exact hV x hx
      obtain ⟨σ4, c1, c2, c3⟩ := v_lines hr3 hl hb h9 hA V3 b3
      obtain ⟨σ5, d1, d2, d3⟩ := v_copy c3
      have F5 : FrV σ σ5 := ((hF.tr (Fr.mono b2 (by simp) (by simp) (by simp))).tr (Fr.mono c2 (by simp) (by simp) (by simp))).tr (Fr.mono d2 (by simp) (by simp) (by simp))
      refine ⟨.inl (nI (i + 1), σ5), ?_, Or.inl ⟨_, rfl, hlt, rfl, F5, d3⟩⟩
      unfold f_X7_within_B37
      rw [if_neg (nI_ge hlt (by omega)), b1, Option.bind_some, c1, Option.bind_some, d1, Option.bind_some, vl_e, nI_1]
