/-! smaller nets: both begin -/
theorem lN_surj (z : Int64) : ∃ k, z = lN k := ⟨z.toBitVec.toNat, by
  apply Int64.toBitVec_inj.1
  show z.toBitVec = BitVec.ofNat 64 z.toBitVec.toNat
  simp⟩
theorem Sx_any {σ : Sg} {n : Nat} (h : gI σ 16 = nI n) : ∃ U D, Sx σ n U D := by
  refine ⟨fun a b => (lN_surj (gJ σ 40 (a * 6 + b))).choose, fun a b => (lN_surj (gJ σ 41 (a * 6 + b))).choose, h, fun a b _ _ => ⟨?_, fun _ => ?_⟩⟩
  · exact (lN_surj (gJ σ 41 (a * 6 + b))).choose_spec
  · exact (lN_surj (gJ σ 40 (a * 6 + b))).choose_spec
abbrev FrS2 (σ σ' : Sg) : Prop := Fr [16] [] [40, 41] σ σ'
theorem FrS.two {σ σ' : Sg} (h : FrS σ σ') : FrS2 σ σ' := Fr.mono h (by simp) (by simp) (by simp)
/-- as far as it is loaded -/
def Ld (n i j : Nat) (w U D : Nat → Nat → Nat) : Prop := ∀ a b, a < n → b < n → (a < i ∨ (a = i ∧ b < j)) → D a b = w a b ∧ U a b = 1
theorem f_sload_row {σ : Sg} {n i : Nat} {w : Nat → Nat → Nat} (hw : wok n w) (hN : NetAt σ 0 n w) (hi : i < n) {U D : Nat → Nat → Nat} (h : Sx σ n U D) (hL : Ld n i 0 w U D) : ∃ σ', wl (fun a : Int32 × Sg => f_X3_load_B20 0 (nI i) a.1 a.2) FU ((0 : Int32), σ) = some σ' ∧ (FrS σ σ' ∧ ∃ U' D', Sx σ' n U' D' ∧ Ld n (i + 1) 0 w U' D') := by
  have hn := hw.2.1
  refine wl_inv (N := n) (I := fun j (a : Int32 × Sg) => a.1 = nI j ∧ FrS σ a.2 ∧ ∃ U' D', Sx a.2 n U' D' ∧ Ld n i j w U' D') (fun j a hj hI => ?_) FU 0 ((0 : Int32), σ) ⟨rfl, Fr.rf, U, D, h, hL⟩ (Nat.zero_le _) (FU_big (by omega))
  obtain ⟨x, σ1⟩ := a
  obtain ⟨hx, hF, U', D', hS, hL'⟩ := hI
  dsimp only at hx hF hS ⊢
  subst hx
  by_cases he : j = n
  · subst he
    refine ⟨.inr σ1, ?_, Or.inr ⟨σ1, rfl, hF, U', D', hS, fun a b ha hb hab => hL' a b ha hb (by omega)⟩⟩
    unfold f_X3_load_B20
    rw [hS.1, if_pos (nI_le (Nat.le_refl _) (by omega))]
  · have hlt : j < n := by omega
    have h9 := hw.2.2.2.2.1 i j
    have hN1 : NetAt σ1 0 n w := hN.cg (hF.1 _ List.not_mem_nil) (hF.1 _ List.not_mem_nil) (hF.2.1 _ List.not_mem_nil) (hF.2.1 _ List.not_mem_nil) (hF.2.1 _ List.not_mem_nil)
    obtain ⟨σ2, p1, p2', p3⟩ := f_sput_yes (u := 1) (d := w i j) hS hn hi hlt
    have p1' : f_X3_put σ1 (nI i) (nI j) (1 : Int64) (lN (w i j)) = some σ2 := p1
    refine ⟨.inl (nI (j + 1), σ2), ?_, Or.inl ⟨_, rfl, hlt, rfl, hF.tr p2', _, _, p3, fun a b ha hb hab => ?_⟩⟩
    · unfold f_X3_load_B20
      rw [hS.1, if_neg (nI_ge hlt (by omega)), f_widthAt_yes hN1 hn hi hlt, Option.bind_some, nI_64 (by omega), p1', Option.bind_some, vl_e, nI_1]
    · unfold p2
      by_cases c : (a = i ∧ b = j) ∨ (a = j ∧ b = i)
      · rw [if_pos c, if_pos c]
        rcases c with ⟨rfl, rfl⟩ | ⟨rfl, rfl⟩
        · exact ⟨rfl, rfl⟩
        · exact ⟨hw.2.2.1 _ _, rfl⟩
      · rw [if_neg c, if_neg c]
        exact hL' a b ha hb (by omega)
theorem f_sload_yes {σ : Sg} {n : Nat} {w : Nat → Nat → Nat} (hw : wok n w) (hN : NetAt σ 0 n w) : ∃ σ', f_X3_load σ 0 = some σ' ∧ FrS2 σ σ' ∧ Sx σ' n (fun _ _ => 1) w := by
  have hn := hw.2.1
  have F0 : FrS2 σ (pI σ 16 (nI n)) := Fr.pI (by simp)
  obtain ⟨U, D, hS⟩ := Sx_any (σ := pI σ 16 (nI n)) (n := n) rfl
  unfold f_X3_load
  rw [show gI σ (4 + 2 * 0) = nI n from hN.1, vl_e, vl_e]
  have key := wl_inv (body := fun a : Int32 × Sg => f_X3_load_B10 0 a.1 a.2) (N := n) (I := fun i (a : Int32 × Sg) => a.1 = nI i ∧ FrS2 σ a.2 ∧ ∃ U' D', Sx a.2 n U' D' ∧ Ld n i 0 w U' D') (Post := fun b => FrS2 σ b ∧ Sx b n (fun _ _ => 1) w) (fun i a hi hI => ?_) FU 0 ((0 : Int32), pI σ 16 (nI n)) ⟨rfl, F0, U, D, hS, fun a b _ _ q => by omega⟩ (Nat.zero_le _) (FU_big (by omega))
  · obtain ⟨σ', k1, k2, k3⟩ := key
    rw [k1]
    exact ⟨σ', rfl, k2, k3⟩
  · obtain ⟨x, σ1⟩ := a
    obtain ⟨hx, hF, U', D', hS', hL'⟩ := hI
    dsimp only at hx hF hS' ⊢
    subst hx
    have hN1 : NetAt σ1 0 n w := hN.cg (hF.1 _ (by decide)) (hF.1 _ (by decide)) (hF.2.1 _ List.not_mem_nil) (hF.2.1 _ List.not_mem_nil) (hF.2.1 _ List.not_mem_nil)
    by_cases he : i = n
    · subst he
      refine ⟨.inr σ1, ?_, Or.inr ⟨σ1, rfl, hF, hS'.1, fun a b ha hb => ?_⟩⟩
      · unfold f_X3_load_B10
        rw [hS'.1, if_pos (nI_le (Nat.le_refl _) (by omega))]
      · obtain ⟨l1, l2⟩ := hL' a b ha hb (Or.inl ha)
        have := hS'.2 a b ha hb
        rw [l1, l2] at this
        exact this
    · have hlt : i < n := by omega
      obtain ⟨σ2, s1, s2, U2', D2', s3, s4⟩ := f_sload_row hw hN1 hlt hS' hL'
      refine ⟨.inl (nI (i + 1), σ2), ?_, Or.inl ⟨_, rfl, hlt, rfl, hF.tr s2.two, U2', D2', s3, s4⟩⟩
      unfold f_X3_load_B10
      rw [hS'.1, if_neg (nI_ge hlt (by omega)), s1, Option.bind_some, vl_e, nI_1]
