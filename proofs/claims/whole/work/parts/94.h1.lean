/-! hanging together: the class's rounds -/
theorem nx_or (a b : Nat) : nI a ||| nI b = nI (a ||| b) := by
  apply Int32.toBitVec_inj.1
  show BitVec.ofNat 32 a ||| BitVec.ofNat 32 b = BitVec.ofNat 32 (a ||| b)
  apply BitVec.eq_of_getLsbD_eq
  intro i hi
  simp [hi]
def en (e : Nat × Nat × Nat) : Nat := 2 ^ e.1 ||| 2 ^ e.2.1
def sw1 (m : Nat) (e : Nat × Nat × Nat) : Nat := if m &&& en e = 0 then m else m ||| en e
def sw (m : Nat) (S : List (Nat × Nat × Nat)) : Nat := S.foldl sw1 m
theorem en_bit (e : Nat × Nat × Nat) (x : Nat) : (en e).testBit x = (decide (e.1 = x) || decide (e.2.1 = x)) := by
  unfold en
  rw [Nat.testBit_or, Nat.testBit_two_pow, Nat.testBit_two_pow]
theorem en_and (m : Nat) (e : Nat × Nat × Nat) : m &&& en e = 0 ↔ m.testBit e.1 = false ∧ m.testBit e.2.1 = false := by
  constructor
  · intro h
    have key : ∀ x, (m.testBit x && (en e).testBit x) = false := fun x => by
      rw [← Nat.testBit_and, h, Nat.zero_testBit]
    have k1 := key e.1
    have k2 := key e.2.1
    rw [en_bit] at k1 k2
    simp at k1 k2
    exact ⟨k1, k2⟩
  · rintro ⟨h1, h2⟩
    apply Nat.eq_of_testBit_eq
    intro x
    rw [Nat.testBit_and, en_bit, Nat.zero_testBit]
    by_cases c1 : e.1 = x
    · subst c1
      rw [h1]
      rfl
    · by_cases c2 : e.2.1 = x
      · subst c2
        rw [h2]
        rfl
      · simp [c1, c2]
theorem en_lt {n : Nat} {e : Nat × Nat × Nat} (h1 : e.1 < n) (h2 : e.2.1 < n) : en e < 2 ^ n := Nat.or_lt_two_pow (Nat.pow_lt_pow_right (by omega) h1) (Nat.pow_lt_pow_right (by omega) h2)
theorem sw1_lt {n m : Nat} {e : Nat × Nat × Nat} (hm : m < 2 ^ n) (h1 : e.1 < n) (h2 : e.2.1 < n) : sw1 m e < 2 ^ n := by
  unfold sw1
  split
  · exact hm
  · exact Nat.or_lt_two_pow hm (en_lt h1 h2)
theorem sw1_mono {m x : Nat} (e : Nat × Nat × Nat) (h : m.testBit x = true) : (sw1 m e).testBit x = true := by
  unfold sw1
  split
  · exact h
  · rw [Nat.testBit_or, h]
    rfl
theorem sw_lt {n : Nat} : ∀ (S : List (Nat × Nat × Nat)) (m : Nat), m < 2 ^ n → (∀ e ∈ S, e.1 < n ∧ e.2.1 < n) → sw m S < 2 ^ n
  | [], m, h, _ => h
  | e :: S, m, h, hb => sw_lt S (sw1 m e) (sw1_lt h (hb e List.mem_cons_self).1 (hb e List.mem_cons_self).2) (fun f hf => hb f (List.mem_cons_of_mem _ hf))
theorem sw_mono : ∀ (S : List (Nat × Nat × Nat)) (m : Nat) {x : Nat}, m.testBit x = true → (sw m S).testBit x = true
  | [], _, _, h => h
  | e :: S, m, _, h => sw_mono S (sw1 m e) (sw1_mono e h)
theorem sw1_col {c : Nat → Bool} {m : Nat} {e : Nat × Nat × Nat} {b : Bool} (he : c e.1 = c e.2.1) (h : ∀ x, m.testBit x = true → c x = b) : ∀ x, (sw1 m e).testBit x = true → c x = b := by
  intro x hx
  unfold sw1 at hx
  by_cases z : m &&& en e = 0
  · rw [if_pos z] at hx
    exact h x hx
  · rw [if_neg z, Nat.testBit_or, en_bit] at hx
    have hcb : c e.1 = b := by
      by_cases q1 : m.testBit e.1 = true
      · exact h _ q1
      · by_cases q2 : m.testBit e.2.1 = true
        · rw [he]
          exact h _ q2
        · exact absurd ((en_and m e).mpr ⟨by simpa using q1, by simpa using q2⟩) z
    by_cases q : m.testBit x = true
    · exact h x q
    · have q' : m.testBit x = false := by simpa using q
      rw [q', Bool.false_or] at hx
      by_cases c1 : e.1 = x
      · rw [← c1]
        exact hcb
      · have c2 : e.2.1 = x := by simpa [c1] using hx
        rw [← c2, ← he]
        exact hcb
theorem sw_col {c : Nat → Bool} {b : Bool} : ∀ (S : List (Nat × Nat × Nat)) (m : Nat), (∀ e ∈ S, c e.1 = c e.2.1) → (∀ x, m.testBit x = true → c x = b) → ∀ x, (sw m S).testBit x = true → c x = b
  | [], _, _, h => h
  | e :: S, m, he, h => sw_col S (sw1 m e) (fun f hf => he f (List.mem_cons_of_mem _ hf)) (sw1_col (he e List.mem_cons_self) h)
theorem sw1_eq {m : Nat} {e : Nat × Nat × Nat} (h : sw1 m e = m) : m.testBit e.1 = m.testBit e.2.1 := by
  unfold sw1 at h
  by_cases z : m &&& en e = 0
  · have := (en_and m e).mp z
    rw [this.1, this.2]
  · rw [if_neg z] at h
    have k1 : m.testBit e.1 = true := by
      rw [← h, Nat.testBit_or, en_bit]
      simp
    have k2 : m.testBit e.2.1 = true := by
      rw [← h, Nat.testBit_or, en_bit]
      simp
    rw [k1, k2]
theorem sw_eq : ∀ (S : List (Nat × Nat × Nat)) (m : Nat), (∀ x, (sw m S).testBit x = m.testBit x) → ∀ e ∈ S, m.testBit e.1 = m.testBit e.2.1
  | [], _, _, e, he => absurd he List.not_mem_nil
  | a :: S, m, h, e, he => by
    have h1 : sw1 m a = m := by
      apply Nat.eq_of_testBit_eq
      intro x
      by_cases q : m.testBit x = true
      · rw [q]
        exact sw1_mono a q
      · have q' : m.testBit x = false := by simpa using q
        rw [q']
        cases z : (sw1 m a).testBit x
        · rfl
        · have h2 := sw_mono S (sw1 m a) z
          have h3 : (sw (sw1 m a) S).testBit x = m.testBit x := h x
          rw [h2, q'] at h3
          cases h3
    rcases List.mem_cons.mp he with rfl | he
    · exact sw1_eq h1
    · have h4 : ∀ x, (sw m S).testBit x = m.testBit x := fun x => by
        have h3 : (sw (sw1 m a) S).testBit x = m.testBit x := h x
        rw [h1] at h3
        exact h3
      exact sw_eq S m h4 e he
/-- how many bits -/
def bc (n m : Nat) : Nat := ((List.range n).map (fun x => (m.testBit x).toNat)).sum
theorem sum_mono {f g : Nat → Nat} : ∀ n, (∀ x, x < n → f x ≤ g x) → ((List.range n).map f).sum ≤ ((List.range n).map g).sum
  | 0, _ => Nat.le_refl _
  | n + 1, h => by
    rw [sum_range_succ, sum_range_succ]
    have := sum_mono n (fun x hx => h x (by omega))
    have := h n (by omega)
    omega
theorem sum_strict {f g : Nat → Nat} : ∀ n, (∀ x, x < n → f x ≤ g x) → ∀ x, x < n → f x < g x → ((List.range n).map f).sum < ((List.range n).map g).sum
  | 0, _, x, hx, _ => absurd hx (Nat.not_lt_zero _)
  | n + 1, h, x, hx, hs => by
    rw [sum_range_succ, sum_range_succ]
    by_cases c : x = n
    · subst c
      have := sum_mono x (fun y hy => h y (by omega))
      omega
    · have := sum_strict n (fun y hy => h y (by omega)) x (by omega) hs
      have := h n (by omega)
      omega
theorem bc_all {n m : Nat} (hm : m < 2 ^ n) (h : n ≤ bc n m) : m = 2 ^ n - 1 := by
  apply Nat.eq_of_testBit_eq
  intro x
  rw [Nat.testBit_two_pow_sub_one]
  by_cases c : x < n
  · rw [decide_eq_true c]
    refine Classical.byContradiction fun q => ?_
    have q' : m.testBit x = false := by simpa using q
    have := sum_strict (f := fun x => (m.testBit x).toNat) (g := fun _ => 1) n (fun y _ => Bool.toNat_le _) x c (by rw [q']; decide)
    rw [sum_ones] at this
    unfold bc at h
    omega
  · rw [decide_eq_false c]
    exact Nat.testBit_lt_two_pow (Nat.lt_of_lt_of_le hm (Nat.pow_le_pow_right (by omega) (by omega)))
theorem bc_up {n m m' : Nat} (hm : m < 2 ^ n) (hm' : m' < 2 ^ n) (h : ∀ x, m.testBit x = true → m'.testBit x = true) (hne : m' ≠ m) : bc n m < bc n m' := by
  have hle : ∀ x, (m.testBit x).toNat ≤ (m'.testBit x).toNat := fun x => by
    cases q : m.testBit x
    · exact Nat.zero_le _
    · rw [h x q]
      exact Nat.le_refl _
  have : ∃ x, m'.testBit x ≠ m.testBit x := Classical.byContradiction fun q => hne (Nat.eq_of_testBit_eq (fun x => Classical.byContradiction fun r => q ⟨x, r⟩))
  obtain ⟨x, hx⟩ := this
  have hxn : x < n := Classical.byContradiction fun q => by
    have hp : 2 ^ n ≤ 2 ^ x := Nat.pow_le_pow_right (by omega) (by omega)
    rw [Nat.testBit_lt_two_pow (Nat.lt_of_lt_of_le hm hp), Nat.testBit_lt_two_pow (Nat.lt_of_lt_of_le hm' hp)] at hx
    exact hx rfl
  refine sum_strict n (fun y _ => hle y) x hxn ?_
  have hl := hle x
  cases q : m.testBit x
  · cases r : m'.testBit x
    · rw [q, r] at hx
      exact absurd rfl hx
    · decide
  · rw [q] at hx
    rw [h x q] at hx
    exact absurd rfl hx
theorem f_sweep_yes {σ : Sg} {k n m s : Nat} {w : Nat → Nat → Nat} (hw : wok n w) (hN : NetAt σ k n w) (hs : s < 2 ^ 31) : wl (fun a : Int32 × Int32 => f_X1_hangsBy_B31 σ k (nI s) a.1 a.2) FU (nI m, (0 : Int32)) = some (nI (sw m (sub (Ln n w) s))) := by
  have hlen := hw.2.2.2.2.2
  have hn := hw.2.1
  have key := wl_run (body := fun a : Int32 × Int32 => f_X1_hangsBy_B31 σ k (nI s) a.1 a.2) (fun i => (nI (sw m (sub ((Ln n w).take i) s)), nI i)) (Ln n w).length (b := nI (sw m (sub (Ln n w) s))) (fun i hi => ?_) ?_ FU (FU_big (by omega))
  · exact key
  · dsimp only
    obtain ⟨e, hg⟩ : ∃ e, (Ln n w)[i]? = some e := ⟨_, List.getElem?_eq_getElem hi⟩
    have hst := sub_take (Ln n w) s i e hg
    have hm := mem_Ln.mp (List.mem_of_getElem? hg)
    unfold f_X1_hangsBy_B31
    rw [hN.2.1, if_neg (nI_ge hi (by omega)), f_lowOf_yes hN hlen hg, Option.bind_some, f_highOf_yes hN hlen hg, Option.bind_some, sh_1 _ (by omega), sh_1 _ (by omega), nx_or, vl_e, bit_at hs (by omega)]
    by_cases cb : s / 2 ^ i % 2 = 1
    · rw [if_pos cb] at hst
      have e1 : sw m (sub ((Ln n w).take (i + 1)) s) = sw1 (sw m (sub ((Ln n w).take i) s)) e := by
        rw [hst]
        unfold sw
        rw [List.foldl_append]
        rfl
      rw [if_pos (by rw [cb]; rfl), e1, nx_and]
      unfold sw1 en
      by_cases z : sw m (sub ((Ln n w).take i) s) &&& (2 ^ e.1 ||| 2 ^ e.2.1) = 0
      · rw [if_pos (by rw [z]; rfl), if_pos z, vl_e, nI_1]
      · have hlt : sw m (sub ((Ln n w).take i) s) &&& (2 ^ e.1 ||| 2 ^ e.2.1) < 2 ^ 31 := by
          refine Nat.lt_of_le_of_lt Nat.and_le_right ?_
          exact Nat.lt_of_lt_of_le (en_lt (n := 6) (e := e) (by omega) (by omega)) (by decide)
        rw [if_neg (nI_ne0 (by omega) hlt), if_neg z, nx_or, vl_e, vl_e, nI_1]
    · rw [if_neg cb, List.append_nil] at hst
      have cb0 : s / 2 ^ i % 2 = 0 := by omega
      rw [if_neg (by rw [cb0]; decide), vl_e, nI_1, hst]
  · dsimp only
    unfold f_X1_hangsBy_B31
    rw [hN.2.1, if_pos (nI_le (Nat.le_refl _) (by omega)), List.take_length]
theorem sub_mem {α : Type} : ∀ (L : List α) (s : Nat) {e : α}, e ∈ sub L s → e ∈ L
  | [], _, _, h => h
  | a :: L, s, e, h => by
    unfold sub at h
    split at h
    · rcases List.mem_cons.mp h with rfl | h
      · exact List.mem_cons_self
      · exact List.mem_cons_of_mem _ (sub_mem L _ h)
    · exact List.mem_cons_of_mem _ (sub_mem L _ h)
theorem sh_all : ∀ n, n < 11 → ((1 : Int32) <<< (nI n &&& 31)) - 1 = nI (2 ^ n - 1) := by decide +kernel
theorem f_hangsBy_yes {σ : Sg} {k n s : Nat} {w : Nat → Nat → Nat} (hw : wok n w) (hN : NetAt σ k n w) (hs : s < 2 ^ 31) : f_X1_hangsBy σ k (nI s) = some (bI (tog n (fo (sub (Ln n w) s)).2)) := by
  have hlen := hw.2.2.2.2.2
  have hn := hw.2.1
  have h2 := hw.1
  have hp : 2 ^ n ≤ 64 := Nat.pow_le_pow_right (show 0 < 2 by omega) hn
  have hb : ∀ e ∈ sub (Ln n w) s, e.1 < n ∧ e.2.1 < n := fun e he => by
    have := mem_Ln.mp (sub_mem _ _ he)
    omega
  unfold f_X1_hangsBy
  rw [hN.1, sh_all n (by omega), vl_e]
  have key := wl_inv (body := fun a : Int32 × Int32 => f_X1_hangsBy_B14 σ k (nI s) (nI (2 ^ n - 1)) a.1 a.2) (N := n - 1) (I := fun i (a : Int32 × Int32) => ∃ m, a = (nI m, nI (i + 1)) ∧ m < 2 ^ n ∧ m.testBit 0 = true ∧ (∀ c : Nat → Bool, (∀ e ∈ sub (Ln n w) s, c e.1 = c e.2.1) → ∀ x, m.testBit x = true → c x = c 0) ∧ (CC n (sub (Ln n w) s) → m = 2 ^ n - 1 ∨ i + 1 ≤ bc n m)) (Post := fun b : Int32 => ∃ m, b = nI m ∧ m < 2 ^ n ∧ (m = 2 ^ n - 1 ↔ CC n (sub (Ln n w) s))) (fun i a hi hI => ?_) FU 0 ((1 : Int32), (1 : Int32)) ⟨1, rfl, by have := Nat.pow_le_pow_right (show 0 < 2 by omega) h2; omega, rfl, fun c _ x hx => ?_, fun _ => Or.inr ?_⟩ (Nat.zero_le _) (FU_big (by omega))
  · obtain ⟨b, k1, m, rfl, k2, k3⟩ := key
    rw [k1, Option.bind_some]
    by_cases c : m = 2 ^ n - 1
    · rw [if_pos (by rw [c]), (tog_iff (by omega) _).mpr (k3.mp c)]
      rfl
    · have : tog n (fo (sub (Ln n w) s)).2 = false := by
        cases q : tog n (fo (sub (Ln n w) s)).2
        · rfl
        · exact absurd (k3.mpr ((tog_iff (by omega) _).mp q)) c
      rw [if_neg (by rw [nI_eq (by omega) (by omega)]; exact c), this]
      rfl
  · obtain ⟨m, rfl, h1, h3, h4, h5⟩ := hI
    dsimp only
    have hall : m = 2 ^ n - 1 → CC n (sub (Ln n w) s) := fun hm c hc x y hx hy => by
      have bx : ∀ z, z < n → m.testBit z = true := fun z hz => by
        rw [hm, Nat.testBit_two_pow_sub_one, decide_eq_true hz]
      rw [h4 c hc x (bx x hx), h4 c hc y (bx y hy)]
    by_cases he : i = n - 1
    · refine ⟨.inr (nI m), ?_, Or.inr ⟨_, rfl, m, rfl, h1, hall, fun hC => ?_⟩⟩
      · unfold f_X1_hangsBy_B14
        rw [hN.1, if_pos (nI_le (by omega) (by omega))]
      · rcases h5 hC with q | q
        · exact q
        · exact bc_all h1 (by omega)
    · by_cases ha : m = 2 ^ n - 1
      · refine ⟨.inr (nI m), ?_, Or.inr ⟨_, rfl, m, rfl, h1, hall, fun _ => ha⟩⟩
        unfold f_X1_hangsBy_B14
        rw [hN.1, if_neg (nI_ge (by omega) (by omega)), if_pos (by rw [ha])]
      · refine ⟨.inl (nI (sw m (sub (Ln n w) s)), nI (i + 1 + 1)), ?_, Or.inl ⟨_, rfl, by omega, sw m (sub (Ln n w) s), rfl, sw_lt _ _ h1 hb, sw_mono _ _ h3, fun c hc => sw_col _ _ hc (h4 c hc), fun hC => Or.inr ?_⟩⟩
        · unfold f_X1_hangsBy_B14
          rw [hN.1, if_neg (nI_ge (by omega) (by omega)), if_neg (by rw [nI_eq (by omega) (by omega)]; exact ha), f_sweep_yes hw hN hs, Option.bind_some, vl_e, nI_1]
        · have h6 : i + 1 ≤ bc n m := (h5 hC).resolve_left ha
          have hne : sw m (sub (Ln n w) s) ≠ m := fun q => by
            have hcl := sw_eq (sub (Ln n w) s) m (fun x => by rw [q])
            have hcc := hC (fun x => m.testBit x) hcl
            refine ha (bc_all h1 ?_)
            have e1 : bc n m = ((List.range n).map (fun _ => 1)).sum := by
              unfold bc
              congr 1
              refine List.map_congr_left (fun x hx => ?_)
              have : m.testBit x = m.testBit 0 := hcc x 0 (List.mem_range.mp hx) (by omega)
              rw [this, h3]
              rfl
            rw [e1, sum_ones]
            exact Nat.le_refl _
          have := bc_up h1 (sw_lt (sub (Ln n w) s) m h1 hb) (fun x hx => sw_mono _ _ hx) hne
          omega
  · have : x = 0 := by
      refine Classical.byContradiction fun q => ?_
      have h1 : Nat.testBit 1 x = false := by
        rw [show (1 : Nat) = 2 ^ 0 from rfl]
        exact Nat.testBit_two_pow_of_ne (fun r => q r.symm)
      rw [h1] at hx
      cases hx
    rw [this]
  · have e1 : ((List.range n).map (un 0)).sum = 1 := sum_one (b := 0) (by omega)
    have := sum_mono (f := un 0) (g := fun x => (Nat.testBit 1 x).toNat) n (fun x _ => by
      unfold un
      by_cases c : x = 0
      · rw [if_pos c, c]
        decide
      · rw [if_neg c]
        exact Nat.zero_le _)
    unfold bc
    omega
theorem sub_all {α : Type} : ∀ L : List α, sub L (2 ^ L.length - 1) = L
  | [] => rfl
  | e :: L => by
    have hp : 0 < 2 ^ L.length := Nat.pow_pos (by omega)
    have e1 : 2 ^ (e :: L).length - 1 = 2 * (2 ^ L.length - 1) + 1 := by
      rw [List.length_cons, Nat.pow_succ]
      omega
    rw [e1]
    unfold sub
    rw [if_pos (by omega), show (2 * (2 ^ L.length - 1) + 1) / 2 = 2 ^ L.length - 1 by omega, sub_all L]
theorem sub_but {α : Type} : ∀ (L : List α) (l : Nat), l < L.length → sub L (2 ^ L.length - 1 - 2 ^ l) = L.eraseIdx l
  | [], _, h => by simp at h
  | e :: L, 0, _ => by
    have hp : 0 < 2 ^ L.length := Nat.pow_pos (by omega)
    have e1 : 2 ^ (e :: L).length - 1 - 2 ^ 0 = 2 * (2 ^ L.length - 1) := by
      rw [List.length_cons, Nat.pow_succ]
      omega
    rw [e1]
    unfold sub
    rw [if_neg (by omega), show 2 * (2 ^ L.length - 1) / 2 = 2 ^ L.length - 1 by omega, sub_all L]
    rfl
  | e :: L, l + 1, h => by
    have hl : l < L.length := by simpa using h
    have hp : 2 ^ l < 2 ^ L.length := Nat.pow_lt_pow_right (by omega) hl
    have hp2 : 0 < 2 ^ l := Nat.pow_pos (by omega)
    have e1 : 2 ^ (e :: L).length - 1 - 2 ^ (l + 1) = 2 * (2 ^ L.length - 1 - 2 ^ l) + 1 := by
      rw [List.length_cons, Nat.pow_succ, Nat.pow_succ]
      omega
    rw [e1]
    unfold sub
    rw [if_pos (by omega), show (2 * (2 ^ L.length - 1 - 2 ^ l) + 1) / 2 = 2 ^ L.length - 1 - 2 ^ l by omega, sub_but L l hl]
    rfl
theorem f_hangs_yes {σ : Sg} {k n : Nat} {w : Nat → Nat → Nat} (hw : wok n w) (hN : NetAt σ k n w) : f_X1_hangs σ k = some (bI (tog n (fo (Ln n w)).2)) := by
  have h10 := pow10 hw.2.2.2.2.2
  unfold f_X1_hangs
  rw [hN.2.1, sh_all _ (by have := hw.2.2.2.2.2; omega), f_hangsBy_yes hw hN (by omega), Option.bind_some, gd_h (bI_ok _), sub_all]
theorem msk : ∀ m, m < 11 → ∀ l, l < m → nI (2 ^ m - 1) &&& (((1 : Int32) <<< (nI l &&& 31)) ^^^ (-1 : Int32)) = nI (2 ^ m - 1 - 2 ^ l) := by decide +kernel
theorem f_mhangs_yes {σ : Sg} {n : Nat} {L : List (Nat × Nat × Nat)} {l : Option Nat} (h : RowAt σ 0 L) (hl : L.length ≤ 10) (hb : ∀ e ∈ L, e.1 < 6 ∧ e.2.1 < 6) (h17 : gI σ 17 = nI n) (h2 : 2 ≤ n) (h6 : n ≤ 6) (hlo : ∀ k, l = some k → k < L.length) : ∃ σ', f_X7_hangs σ (wI l) = some (bI (tog n (fo (Lx L l)).2), σ') ∧ Fr [] [51] [] σ σ' := by
  have h10 := pow10 hl
  have go : ∀ s, s < 2 ^ 31 → ∃ σ', f_X7_hangs_J27 σ (nI s) = some (bI (tog n (fo (sub L s)).2), σ') ∧ Fr [] [51] [] σ σ' := fun s hs => by
    obtain ⟨σ', p1, p2, p3⟩ := f_parts_yes (s := s) h hl hb hs
    refine ⟨σ', ?_, p2⟩
    unfold f_X7_hangs_J27
    rw [p1, Option.bind_some]
    dsimp only
    rw [f_isTogether_yes ((p2.1 17 (by simp)).trans h17) h2 h6 p3, Option.bind_some, gd_h (bI_ok _)]
  unfold f_X7_hangs
  rw [f_lines_yes h, Option.bind_some, sh_all _ (by omega), vl_e]
  cases l with
  | none =>
    obtain ⟨σ', g1, g2⟩ := go (2 ^ L.length - 1) (by omega)
    rw [wI_none, if_pos rfl, g1, sub_all]
    exact ⟨σ', rfl, g2⟩
  | some k =>
    have hk := hlo k rfl
    obtain ⟨σ', g1, g2⟩ := go (2 ^ L.length - 1 - 2 ^ k) (by have := Nat.sub_le (2 ^ L.length - 1) (2 ^ k); omega)
    rw [wI_some, if_neg (nI_m9 (by omega)), msk _ (by omega) k hk, g1, sub_but L k hk]
    exact ⟨σ', rfl, g2⟩
