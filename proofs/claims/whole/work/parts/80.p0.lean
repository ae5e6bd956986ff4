/-! PURE: words and rows about the functions f_.. alone -/
theorem i32lit (n : Nat) : (OfNat.ofNat n : Int32) = nI n := rfl
theorem i64lit (n : Nat) : (OfNat.ofNat n : Int64) = lN n := rfl
theorem il_0 : (0 : Int32) = nI 0 := rfl
theorem il_1 : (1 : Int32) = nI 1 := rfl
theorem il_2 : (2 : Int32) = nI 2 := rfl
theorem il_3 : (3 : Int32) = nI 3 := rfl
theorem il_4 : (4 : Int32) = nI 4 := rfl
theorem il_5 : (5 : Int32) = nI 5 := rfl
theorem il_6 : (6 : Int32) = nI 6 := rfl
theorem il_7 : (7 : Int32) = nI 7 := rfl
theorem il_8 : (8 : Int32) = nI 8 := rfl
theorem il_9 : (9 : Int32) = nI 9 := rfl
theorem il_10 : (10 : Int32) = nI 10 := rfl
theorem il_11 : (11 : Int32) = nI 11 := rfl
theorem il_12 : (12 : Int32) = nI 12 := rfl
theorem il_15 : (15 : Int32) = nI 15 := rfl
theorem il_20 : (20 : Int32) = nI 20 := rfl
theorem il_21 : (21 : Int32) = nI 21 := rfl
theorem il_31 : (31 : Int32) = nI 31 := rfl
theorem il_32 : (32 : Int32) = nI 32 := rfl
theorem il_36 : (36 : Int32) = nI 36 := rfl
theorem il_48 : (48 : Int32) = nI 48 := rfl
theorem il_57 : (57 : Int32) = nI 57 := rfl
theorem il_59 : (59 : Int32) = nI 59 := rfl
theorem il_62 : (62 : Int32) = nI 62 := rfl
theorem il_80 : (80 : Int32) = nI 80 := rfl
theorem il_100 : (100 : Int32) = nI 100 := rfl
theorem il_101 : (101 : Int32) = nI 101 := rfl
theorem il_110 : (110 : Int32) = nI 110 := rfl
theorem il_255 : (255 : Int32) = nI 255 := rfl
theorem il_341 : (341 : Int32) = nI 341 := rfl
theorem il_403 : (403 : Int32) = nI 403 := rfl
theorem il_465 : (465 : Int32) = nI 465 := rfl
theorem il_466 : (466 : Int32) = nI 466 := rfl
theorem il_476 : (476 : Int32) = nI 476 := rfl
theorem il_486 : (486 : Int32) = nI 486 := rfl
theorem il_496 : (496 : Int32) = nI 496 := rfl
theorem jl_0 : (0 : Int64) = lN 0 := rfl
theorem jl_1 : (1 : Int64) = lN 1 := rfl
theorem jl_2 : (2 : Int64) = lN 2 := rfl
theorem jl_6 : (6 : Int64) = lN 6 := rfl
theorem jl_9 : (9 : Int64) = lN 9 := rfl
theorem jl_10 : (10 : Int64) = lN 10 := rfl
theorem jl_48 : (48 : Int64) = lN 48 := rfl
theorem jl_57 : (57 : Int64) = lN 57 := rfl
theorem jl_255 : (255 : Int64) = lN 255 := rfl
theorem okI_nI {i n : Nat} (h : i < n) (hn : n < 2 ^ 31) : okI (nI i) n = true := decide_eq_true (by rw [nI_toInt (by omega)]; omega)
theorem gd_t {α : Type} {x : Option α} : gd true x = x := rfl
theorem gd_h {α : Type} {b : Bool} {x : Option α} (h : b = true) : gd b x = x := by subst h; rfl
theorem vl_e {α β : Type} (e : α) (f : α → β) : vl e f = f e := rfl
theorem gI_pI (σ : Sg) (i j : Nat) (x : Int32) : gI (pI σ i x) j = if j = i then x else gI σ j := rfl
theorem gI_pAr (σ : Sg) (c : Nat) (f : Nat → Int32) (i : Nat) : gI (pAr σ c f) i = gI σ i := rfl
theorem gI_pJr (σ : Sg) (c : Nat) (f : Nat → Int64) (i : Nat) : gI (pJr σ c f) i = gI σ i := rfl
theorem gI_pA (σ : Sg) (c j : Nat) (x : Int32) (i : Nat) : gI (pA σ c j x) i = gI σ i := rfl
theorem gI_pJ (σ : Sg) (c j : Nat) (x : Int64) (i : Nat) : gI (pJ σ c j x) i = gI σ i := rfl
theorem gI_pR (σ : Sg) (c v i : Nat) : gI (pR σ c v) i = gI σ i := rfl
theorem gA_pI (σ : Sg) (i c : Nat) (x : Int32) : gA (pI σ i x) c = gA σ c := rfl
theorem gA_pAr (σ : Sg) (c d : Nat) (f : Nat → Int32) : gA (pAr σ c f) d = if d = c then f else gA σ d := rfl
theorem gA_pJr (σ : Sg) (c d : Nat) (f : Nat → Int64) : gA (pJr σ c f) d = gA σ d := rfl
theorem gA_pA (σ : Sg) (c j d : Nat) (x : Int32) : gA (pA σ c j x) d = if d = c then upd (gA σ c) j x else gA σ d := rfl
theorem gA_pJ (σ : Sg) (c j d : Nat) (x : Int64) : gA (pJ σ c j x) d = gA σ d := rfl
theorem gA_pR (σ : Sg) (i v d : Nat) : gA (pR σ i v) d = gA σ d := rfl
theorem gJ_pI (σ : Sg) (i c : Nat) (x : Int32) : gJ (pI σ i x) c = gJ σ c := rfl
theorem gJ_pAr (σ : Sg) (c d : Nat) (f : Nat → Int32) : gJ (pAr σ c f) d = gJ σ d := rfl
theorem gJ_pJr (σ : Sg) (c d : Nat) (f : Nat → Int64) : gJ (pJr σ c f) d = if d = c then f else gJ σ d := rfl
theorem gJ_pA (σ : Sg) (c j d : Nat) (x : Int32) : gJ (pA σ c j x) d = gJ σ d := rfl
theorem gJ_pJ (σ : Sg) (c j d : Nat) (x : Int64) : gJ (pJ σ c j x) d = if d = c then vp_updL (gJ σ c) j x else gJ σ d := rfl
theorem gJ_pR (σ : Sg) (i v d : Nat) : gJ (pR σ i v) d = gJ σ d := rfl
theorem gR_pI (σ : Sg) (i c : Nat) (x : Int32) : gR (pI σ i x) c = gR σ c := rfl
theorem gR_pAr (σ : Sg) (c d : Nat) (f : Nat → Int32) : gR (pAr σ c f) d = gR σ d := rfl
theorem gR_pJr (σ : Sg) (c d : Nat) (f : Nat → Int64) : gR (pJr σ c f) d = gR σ d := rfl
theorem gR_pA (σ : Sg) (c j d : Nat) (x : Int32) : gR (pA σ c j x) d = gR σ d := rfl
theorem gR_pJ (σ : Sg) (c j d : Nat) (x : Int64) : gR (pJ σ c j x) d = gR σ d := rfl
theorem gR_pR (σ : Sg) (i v d : Nat) : gR (pR σ i v) d = if d = i then v else gR σ d := rfl
theorem upd_at (f : Nat → Int32) (k : Nat) (x : Int32) (j : Nat) : upd f k x j = if j = k then x else f j := rfl
theorem updL_at (f : Nat → Int64) (k : Nat) (x : Int64) (j : Nat) : vp_updL f k x j = if j = k then x else f j := rfl
/-- a loop with an invariant by its round -/
theorem wl_inv {α β : Type} {body : α → Option (α ⊕ β)} {I : Nat → α → Prop} {Post : β → Prop} {N : Nat} (hs : ∀ i a, i ≤ N → I i a → ∃ r, body a = some r ∧ ((∃ a', r = .inl a' ∧ i < N ∧ I (i + 1) a') ∨ (∃ b, r = .inr b ∧ Post b))) : ∀ (fuel i : Nat) (a : α), I i a → i ≤ N → N - i < fuel → ∃ b, wl body fuel a = some b ∧ Post b
  | 0, _, _, _, _, h => absurd h (Nat.not_lt_zero _)
  | f + 1, i, a, hI, hi, hf => by
    obtain ⟨r, h1, h2⟩ := hs i a hi hI
    rcases h2 with ⟨a', rfl, hlt, hI'⟩ | ⟨b, rfl, hb⟩
    · obtain ⟨b, h3, h4⟩ := wl_inv hs f (i + 1) a' hI' hlt (by omega)
      exact ⟨b, by unfold wl; rw [h1]; exact h3, h4⟩
    · exact ⟨b, by unfold wl; rw [h1]; rfl, hb⟩
/-- a loop that goes through known states -/
theorem wl_run {α β : Type} {body : α → Option (α ⊕ β)} (st : Nat → α) (N : Nat) {b : β} (hs : ∀ i, i < N → body (st i) = some (.inl (st (i + 1)))) (he : body (st N) = some (.inr b)) (fuel : Nat) (hf : N < fuel) : wl body fuel (st 0) = some b := by
  have key : ∀ (fuel i : Nat), i ≤ N → N - i < fuel → wl body fuel (st i) = some b := by
    intro fuel
    induction fuel with
    | zero => intro i _ h; omega
    | succ f ih =>
      intro i hi hf
      unfold wl
      by_cases hN : i = N
      · subst hN
        rw [he]
        rfl
      · rw [hs i (by omega)]
        exact ih (i + 1) (by omega) (by omega)
  exact key fuel 0 (by omega) (by omega)
theorem FU_big {n : Nat} (h : n < 5000) : n < FU := h
/-- the frame: what may differ -/
def Fr (I A J : List Nat) (σ σ' : Sg) : Prop := (∀ i, i ∉ I → gI σ' i = gI σ i) ∧ (∀ c, c ∉ A → gA σ' c = gA σ c) ∧ (∀ c, c ∉ J → gJ σ' c = gJ σ c) ∧ ∀ i, gR σ' i = gR σ i
theorem Fr.rf {I A J : List Nat} {σ : Sg} : Fr I A J σ σ := ⟨fun _ _ => rfl, fun _ _ => rfl, fun _ _ => rfl, fun _ => rfl⟩
theorem Fr.tr {I A J : List Nat} {σ σ1 σ2 : Sg} (h : Fr I A J σ σ1) (h2 : Fr I A J σ1 σ2) : Fr I A J σ σ2 := ⟨fun i q => (h2.1 i q).trans (h.1 i q), fun i q => (h2.2.1 i q).trans (h.2.1 i q), fun i q => (h2.2.2.1 i q).trans (h.2.2.1 i q), fun i => (h2.2.2.2 i).trans (h.2.2.2 i)⟩
theorem Fr.mono {I A J I' A' J' : List Nat} {σ σ' : Sg} (h : Fr I A J σ σ') (hI : ∀ i ∈ I, i ∈ I') (hA : ∀ i ∈ A, i ∈ A') (hJ : ∀ i ∈ J, i ∈ J') : Fr I' A' J' σ σ' := ⟨fun i q => h.1 i (fun m => q (hI i m)), fun i q => h.2.1 i (fun m => q (hA i m)), fun i q => h.2.2.1 i (fun m => q (hJ i m)), h.2.2.2⟩
theorem Fr.pI {I A J : List Nat} {σ : Sg} {i : Nat} {x : Int32} (h : i ∈ I) : Fr I A J σ (pI σ i x) := ⟨fun j q => by rw [gI_pI, if_neg (show ¬ j = i from fun e => q (by rw [e]; exact h))], fun _ _ => rfl, fun _ _ => rfl, fun _ => rfl⟩
theorem Fr.pA {I A J : List Nat} {σ : Sg} {c j : Nat} {x : Int32} (h : c ∈ A) : Fr I A J σ (pA σ c j x) := ⟨fun _ _ => rfl, fun d q => by rw [gA_pA, if_neg (show ¬ d = c from fun e => q (by rw [e]; exact h))], fun _ _ => rfl, fun _ => rfl⟩
theorem Fr.pAr {I A J : List Nat} {σ : Sg} {c : Nat} {f : Nat → Int32} (h : c ∈ A) : Fr I A J σ (pAr σ c f) := ⟨fun _ _ => rfl, fun d q => by rw [gA_pAr, if_neg (show ¬ d = c from fun e => q (by rw [e]; exact h))], fun _ _ => rfl, fun _ => rfl⟩
theorem Fr.pJ {I A J : List Nat} {σ : Sg} {c j : Nat} {x : Int64} (h : c ∈ J) : Fr I A J σ (pJ σ c j x) := ⟨fun _ _ => rfl, fun _ _ => rfl, fun d q => by rw [gJ_pJ, if_neg (show ¬ d = c from fun e => q (by rw [e]; exact h))], fun _ => rfl⟩
theorem Fr.pJr {I A J : List Nat} {σ : Sg} {c : Nat} {f : Nat → Int64} (h : c ∈ J) : Fr I A J σ (pJr σ c f) := ⟨fun _ _ => rfl, fun _ _ => rfl, fun d q => by rw [gJ_pJr, if_neg (show ¬ d = c from fun e => q (by rw [e]; exact h))], fun _ => rfl⟩
/-! nets: widths by pairs; lines in their order -/
def prow (n u : Nat) : List (Nat × Nat) := (List.range' (u + 1) (n - (u + 1))).map (fun v => (u, v))
def prs (n : Nat) : List (Nat × Nat) := (List.range n).flatMap (prow n)
def lf (w : Nat → Nat → Nat) (q : Nat × Nat) : Option (Nat × Nat × Nat) := if w q.1 q.2 = 0 then none else some (q.1, q.2, w q.1 q.2)
def Ln (n : Nat) (w : Nat → Nat → Nat) : List (Nat × Nat × Nat) := (prs n).filterMap (lf w)
def wok (n : Nat) (w : Nat → Nat → Nat) : Prop := 2 ≤ n ∧ n ≤ 6 ∧ (∀ u v, w u v = w v u) ∧ (∀ u, w u u = 0) ∧ (∀ u v, w u v ≤ 9) ∧ (Ln n w).length ≤ 10
theorem mem_prs {n u v : Nat} : (u, v) ∈ prs n ↔ u < v ∧ v < n := by
  unfold prs prow
  simp only [List.mem_flatMap, List.mem_range, List.mem_map, List.mem_range'_1, Prod.mk.injEq]
  constructor
  · rintro ⟨a, ha, b, hb, rfl, rfl⟩
    omega
  · rintro ⟨h1, h2⟩
    exact ⟨u, by omega, v, by omega, rfl, rfl⟩
theorem mem_Ln {n : Nat} {w : Nat → Nat → Nat} {e : Nat × Nat × Nat} : e ∈ Ln n w ↔ e.1 < e.2.1 ∧ e.2.1 < n ∧ e.2.2 = w e.1 e.2.1 ∧ e.2.2 ≠ 0 := by
  obtain ⟨a, b, c⟩ := e
  unfold Ln
  rw [List.mem_filterMap]
  constructor
  · rintro ⟨⟨u, v⟩, hm, he⟩
    have := mem_prs.mp hm
    unfold lf at he
    split at he
    · cases he
    · simp only [Option.some.injEq, Prod.mk.injEq] at he
      obtain ⟨rfl, rfl, rfl⟩ := he
      exact ⟨this.1, this.2, rfl, by assumption⟩
  · rintro ⟨h1, h2, h3, h4⟩
    dsimp only at h1 h2 h3 h4
    refine ⟨(a, b), mem_prs.mpr ⟨h1, h2⟩, ?_⟩
    unfold lf
    dsimp only
    rw [if_neg (by rw [← h3]; exact h4), ← h3]
/-- the key by which lines are ordered -/
def lk (e : Nat × Nat × Nat) : Nat := 6 * e.1 + e.2.1
def Srt (L : List (Nat × Nat × Nat)) : Prop := L.Pairwise (fun a b => lk a < lk b)
theorem prow_pw (n u : Nat) : (prow n u).Pairwise (fun a b => a.1 = b.1 ∧ a.2 < b.2) := by
  unfold prow
  rw [List.pairwise_map]
  exact (List.pairwise_lt_range' (s := u + 1) (n := n - (u + 1))).imp (fun h => ⟨rfl, h⟩)
theorem prs_pw (n : Nat) : (prs n).Pairwise (fun a b => a.1 < b.1 ∨ (a.1 = b.1 ∧ a.2 < b.2)) := by
  unfold prs
  rw [List.pairwise_flatMap]
  refine ⟨fun u _ => (prow_pw n u).imp (fun h => Or.inr h), ?_⟩
  refine (List.pairwise_lt_range (n := n)).imp (fun {a b} hab x hx y hy => ?_)
  unfold prow at hx hy
  obtain ⟨_, _, rfl⟩ := List.mem_map.mp hx
  obtain ⟨_, _, rfl⟩ := List.mem_map.mp hy
  exact Or.inl hab
theorem Ln_srt {n : Nat} {w : Nat → Nat → Nat} (hn : n ≤ 6) : Srt (Ln n w) := by
  unfold Srt Ln
  rw [List.pairwise_filterMap]
  refine ((prs_pw n).imp_of_mem (fun {a b} ha hb hab e he f hf => ?_))
  obtain ⟨a1, a2⟩ := a
  obtain ⟨b1, b2⟩ := b
  have h1 := mem_prs.mp ha
  have h2 := mem_prs.mp hb
  unfold lf at he hf
  split at he
  · cases he
  split at hf
  · cases hf
  simp only [Option.some.injEq] at he hf
  subst he
  subst hf
  unfold lk
  dsimp only at hab ⊢
  omega
/-- sorted lists with the same members are one -/
theorem srt_ext : ∀ {L M : List (Nat × Nat × Nat)}, Srt L → Srt M → (∀ e, e ∈ L ↔ e ∈ M) → L = M
  | [], [], _, _, _ => rfl
  | [], b :: M, _, _, h => absurd ((h b).mpr List.mem_cons_self) List.not_mem_nil
  | a :: L, [], _, _, h => absurd ((h a).mp List.mem_cons_self) List.not_mem_nil
  | a :: L, b :: M, hL, hM, h => by
    obtain ⟨ha, hL'⟩ := List.pairwise_cons.mp hL
    obtain ⟨hb, hM'⟩ := List.pairwise_cons.mp hM
    have hab : a = b := by
      rcases List.mem_cons.mp ((h a).mp List.mem_cons_self) with q | q
      · exact q
      · rcases List.mem_cons.mp ((h b).mpr List.mem_cons_self) with r | r
        · exact r.symm
        · have := ha b r
          have := hb a q
          omega
    subst hab
    congr 1
    refine srt_ext hL' hM' (fun e => ⟨fun he => ?_, fun he => ?_⟩)
    · rcases List.mem_cons.mp ((h e).mp (List.mem_cons_of_mem _ he)) with q | q
      · subst q
        have := ha e he
        omega
      · exact q
    · rcases List.mem_cons.mp ((h e).mpr (List.mem_cons_of_mem _ he)) with q | q
      · subst q
        have := hb e he
        omega
      · exact q
