/-! smaller nets: the run -/
abbrev T3 := (Nat → Nat → Nat) × (Nat → Nat → Nat) × (Nat → Nat → Nat)
def st1 (n : Nat) (s : T3) (x : Nat) : T3 := match nbs n s.2.1 x with
  | [a] => (s.1, D1 s.2.1 x a, s.2.2)
  | [a, b] => (U2 s.1 s.2.1 x a b, D2 s.1 s.2.1 x a b, K2 s.2.2 x a b)
  | _ => s
def IvT (n : Nat) (s : T3) : Prop := Iv n s.1 s.2.1 s.2.2
theorem cd_cases {n u v x : Nat} {D : Nat → Nat → Nat} (h : cd n D u v x = true) : (∃ a, nbs n D x = [a]) ∨ ∃ a b, nbs n D x = [a, b] := by
  unfold cd at h
  rw [Bool.and_eq_true, Bool.or_eq_true, decide_eq_true_iff, decide_eq_true_iff] at h
  rcases h.2 with q | q
  · exact Or.inl (List.length_eq_one_iff.mp q)
  · generalize nbs n D x = l at q
    match l, q with
    | [a, b], _ => exact Or.inr ⟨a, b, rfl⟩
theorem st1_one {n x a : Nat} {s : T3} (h : nbs n s.2.1 x = [a]) : st1 n s x = (s.1, D1 s.2.1 x a, s.2.2) := by
  unfold st1
  rw [h]
theorem st1_two {n x a b : Nat} {s : T3} (h : nbs n s.2.1 x = [a, b]) : st1 n s x = (U2 s.1 s.2.1 x a b, D2 s.1 s.2.1 x a b, K2 s.2.2 x a b) := by
  unfold st1
  rw [h]
theorem drop_yes {σ : Sg} {n u v x : Nat} {s : T3} (hI : IvT n s) (h : Sx σ n s.1 s.2.1) (hn : n ≤ 6) (hx : x < n) (hc : cd n s.2.1 u v x = true) : IvT n (st1 n s x) ∧ ∃ σ', f_X3_drop σ (nI x) = some σ' ∧ FrS σ σ' ∧ Sx σ' n (st1 n s x).1 (st1 n s x).2.1 := by
  rcases cd_cases hc with ⟨a, hl⟩ | ⟨a, b, hl⟩
  · rw [st1_one hl]
    obtain ⟨ha, hd, -⟩ := nbs_one hl
    exact ⟨Iv_1 hI (fun q => hd (by rw [← q]; exact hI.2.2.2.1 x)), f_drop1_yes h hn hI.sz hx hl⟩
  · rw [st1_two hl]
    exact ⟨Iv_2 hI hx hl, f_drop2_yes h hn hI.sz hx (hI.2.2.2.1 x) hl (Iv_bx hI hx hl).1⟩
theorem goes_yes {σ : Sg} {n u v x : Nat} {s : T3} (hI : IvT n s) (h : Sy σ n s.1 s.2.1) (hn : n ≤ 6) (hx : x < n) (hc : cd n s.2.1 u v x = true) : ∃ σ', f_X7_goes σ (nI x) = some σ' ∧ FrQ σ σ' ∧ Sy σ' n (st1 n s x).1 (st1 n s x).2.1 := by
  rcases cd_cases hc with ⟨a, hl⟩ | ⟨a, b, hl⟩
  · rw [st1_one hl]
    exact f_goes1_yes h hn hI.sz hx hl
  · rw [st1_two hl]
    exact f_goes2_yes h hn hI.sz hx hl (Iv_bx hI hx hl).1
def nx (n : Nat) (D : Nat → Nat → Nat) (u v : Nat) : Option Nat := (List.range n).find? (cd n D u v)
theorem nx_none {n u v : Nat} {D : Nat → Nat → Nat} (h : ∀ x, x < n → cd n D u v x = false) : nx n D u v = none := by
  unfold nx
  rw [List.find?_eq_none]
  intro x hx
  rw [h x (List.mem_range.mp hx)]
  decide
theorem nx_some {n u v x : Nat} {D : Nat → Nat → Nat} (hx : x < n) (hc : cd n D u v x = true) (h : ∀ y, y < x → cd n D u v y = false) : nx n D u v = some x := by
  unfold nx
  rw [show n = (x + 1) + (n - (x + 1)) by omega, List.range_add, List.range_succ, List.append_assoc, List.find?_append]
  have : (List.range x).find? (cd ((x + 1) + (n - (x + 1))) D u v) = none := by
    rw [show (x + 1) + (n - (x + 1)) = n by omega, List.find?_eq_none]
    intro y hy
    rw [h y (List.mem_range.mp hy)]
    decide
  rw [this]
  simp [show x + 1 + (n - (x + 1)) = n by omega, hc]
def run (n u v : Nat) : Nat → T3 → T3
  | 0, s => s
  | k + 1, s => match nx n s.2.1 u v with
    | none => s
    | some x => run n u v k (st1 n s x)
theorem f_reduces_yes {σ : Sg} {n u v : Nat} {w : Nat → Nat → Nat} (hw : wok n w) (hN : NetAt σ 0 n w) (hu : u < n) (hv : v < n) : ∃ σ', f_X3_reduces σ 0 (nI u) (nI v) = some σ' ∧ FrS2 σ σ' ∧ Sx σ' n (run n u v n (fun _ _ => 1, wn n w, K0 n w)).1 (run n u v n (fun _ _ => 1, wn n w, K0 n w)).2.1 ∧ IvT n (run n u v n (fun _ _ => 1, wn n w, K0 n w)) := by
  have hn := hw.2.1
  obtain ⟨σ1, a1, a2, a3⟩ := f_sload_yes hw hN
  have S0 : Sx σ1 n (fun _ _ => 1) (wn n w) := ⟨a3.1, fun a b ha hb => by
    have := a3.2 a b ha hb
    unfold wn
    rw [if_pos ⟨ha, hb⟩]
    exact this⟩
  unfold f_X3_reduces
  rw [a1, Option.bind_some]
  have key := wl_inv (body := fun a : Int32 × Sg => f_X3_reduces_B8 (nI u) (nI v) a.1 a.2) (N := n) (I := fun i (a : Int32 × Sg) => ∃ s : T3, a.1 = nI i ∧ FrS2 σ a.2 ∧ Sx a.2 n s.1 s.2.1 ∧ IvT n s ∧ run n u v (n - i) s = run n u v n (fun _ _ => 1, wn n w, K0 n w)) (Post := fun b : Sg ⊕ Sg => ∃ σ', (b = .inl σ' ∨ b = .inr σ') ∧ FrS2 σ σ' ∧ Sx σ' n (run n u v n (fun _ _ => 1, wn n w, K0 n w)).1 (run n u v n (fun _ _ => 1, wn n w, K0 n w)).2.1 ∧ IvT n (run n u v n (fun _ _ => 1, wn n w, K0 n w))) (fun i a hi hI => ?_) FU 0 ((0 : Int32), σ1) ⟨(fun _ _ => 1, wn n w, K0 n w), rfl, a2, S0, Iv_0 hw, rfl⟩ (Nat.zero_le _) (FU_big (by omega))
  · obtain ⟨b, k1, σ', k2, k3, k4, k5⟩ := key
    rw [k1, Option.bind_some]
    refine ⟨σ', ?_, k3, k4, k5⟩
    rcases k2 with rfl | rfl <;> rfl
  · obtain ⟨x, σ2⟩ := a
    obtain ⟨s, hx, hF, hS, hV, hR⟩ := hI
    dsimp only at hx hF hS ⊢
    subst hx
    unfold f_X3_reduces_B8
    rw [hS.1]
    by_cases he : i = n
    · subst he
      rw [Nat.sub_self] at hR
      rw [if_pos (nI_le (Nat.le_refl _) (by omega))]
      refine ⟨_, rfl, Or.inr ⟨_, rfl, σ2, Or.inl rfl, hF, ?_⟩⟩
      rw [← hR]
      exact ⟨hS, hV⟩
    · have hlt : i < n := by omega
      rw [if_neg (nI_ge hlt (by omega))]
      rw [show n - i = (n - (i + 1)) + 1 by omega] at hR
      obtain ⟨r, r1, r2⟩ := f_lowest_yes hS hn hV.sz hu hv
      rw [r1, Option.bind_some]
      rcases r2 with ⟨rfl, r3⟩ | ⟨y, hy, rfl, r3, r4⟩
      · rw [if_pos rfl]
        refine ⟨_, rfl, Or.inr ⟨_, rfl, σ2, Or.inr rfl, hF, ?_⟩⟩
        have e0 : run n u v ((n - (i + 1)) + 1) s = s := by
          unfold run
          rw [nx_none r3]
        rw [← hR, e0]
        exact ⟨hS, hV⟩
      · obtain ⟨v1, σ3, v2, v3, v4⟩ := drop_yes hV hS hn hy r3
        have e0 : run n u v ((n - (i + 1)) + 1) s = run n u v (n - (i + 1)) (st1 n s y) := by
          conv => lhs; unfold run
          rw [nx_some hy r3 r4]
        rw [if_neg (nI_m9 (by omega)), v2, Option.bind_some, nI_1, vl_e]
        exact ⟨_, rfl, Or.inl ⟨_, rfl, hlt, st1 n s y, rfl, hF.tr v3.two, v4, v1, by rw [← e0]; exact hR⟩⟩
