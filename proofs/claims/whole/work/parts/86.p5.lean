/-! lines laid, widened, cut: the list of lines -/
theorem w2_sym {w : Nat → Nat → Nat} {u v a : Nat} (h : ∀ x y, w x y = w y x) : ∀ x y, w2 w u v a x y = w2 w u v a y x := by
  intro x y
  unfold w2
  by_cases c : (x = u ∧ y = v) ∨ (x = v ∧ y = u)
  · rw [if_pos c, if_pos (by omega)]
  · rw [if_neg c, if_neg (by omega), h]
theorem w2_back {w : Nat → Nat → Nat} {u v a : Nat} (h : ∀ x y, w x y = w y x) : w2 (w2 w u v a) u v (w u v) = w := by
  funext x y
  unfold w2
  by_cases c : (x = u ∧ y = v) ∨ (x = v ∧ y = u)
  · rw [if_pos c]
    rcases c with ⟨rfl, rfl⟩ | ⟨rfl, rfl⟩
    · rfl
    · exact h _ _
  · rw [if_neg c, if_neg c]
theorem w2_wok {n : Nat} {w : Nat → Nat → Nat} {u v a : Nat} (hw : wok n w) (huv : u ≠ v) (ha : a ≤ 9) (hl : (Ln n (w2 w u v a)).length ≤ 10) : wok n (w2 w u v a) := by
  refine ⟨hw.1, hw.2.1, w2_sym hw.2.2.1, fun x => ?_, fun x y => ?_, hl⟩
  · unfold w2
    rw [if_neg (by omega)]
    exact hw.2.2.2.1 x
  · unfold w2
    split
    · exact ha
    · exact hw.2.2.2.2.1 x y
theorem srt_inj {L : List (Nat × Nat × Nat)} (h : Srt L) {i j : Nat} {e f : Nat × Nat × Nat} (hi : L[i]? = some e) (hj : L[j]? = some f) (hk : lk e = lk f) : i = j := by
  obtain ⟨hi1, rfl⟩ := List.getElem?_eq_some_iff.mp hi
  obtain ⟨hj1, rfl⟩ := List.getElem?_eq_some_iff.mp hj
  have hp := List.pairwise_iff_getElem.mp h
  rcases Nat.lt_trichotomy i j with q | q | q
  · have := hp i j hi1 hj1 q; omega
  · exact q
  · have := hp j i hj1 hi1 q; omega
theorem srt_split {key : Nat} : ∀ {L : List (Nat × Nat × Nat)}, Srt L → (∀ e ∈ L, lk e ≠ key) → ∃ A B, L = A ++ B ∧ (∀ e ∈ A, lk e < key) ∧ ∀ e ∈ B, key < lk e
  | [], _, _ => ⟨[], [], rfl, fun _ h => absurd h List.not_mem_nil, fun _ h => absurd h List.not_mem_nil⟩
  | a :: L, hs, hk => by
    obtain ⟨h1, h2⟩ := List.pairwise_cons.mp hs
    by_cases c : lk a < key
    · obtain ⟨A, B, e1, e2, e3⟩ := srt_split h2 (fun e he => hk e (List.mem_cons_of_mem _ he))
      refine ⟨a :: A, B, by rw [e1]; rfl, fun e he => ?_, e3⟩
      rcases List.mem_cons.mp he with q | q
      · rw [q]; exact c
      · exact e2 e q
    · have h0 := hk a List.mem_cons_self
      refine ⟨[], a :: L, rfl, fun _ h => absurd h List.not_mem_nil, fun e he => ?_⟩
      rcases List.mem_cons.mp he with q | q
      · rw [q]; omega
      · have := h1 e q; omega
theorem Ln_add {n u v a : Nat} {w : Nat → Nat → Nat} (hw : wok n w) (hu : u < n) (hv : v < n) (huv : u ≠ v) (h0 : w u v = 0) (ha : a ≠ 0) : ∃ A B, Ln n w = A ++ B ∧ (∀ e ∈ A, lk e < 6 * min u v + max u v) ∧ (∀ e ∈ B, 6 * min u v + max u v < lk e) ∧ Ln n (w2 w u v a) = A ++ (min u v, max u v, a) :: B := by
  have hn := hw.2.1
  obtain ⟨A, B, h1, h2, h3⟩ := srt_split (key := 6 * min u v + max u v) (Ln_srt (w := w) hn) (fun e he hk => by
    have hm := mem_Ln.mp he
    unfold lk at hk
    have e1 : e.1 = min u v := by omega
    have e2 : e.2.1 = max u v := by omega
    have : w e.1 e.2.1 = 0 := by
      rw [e1, e2]
      by_cases c : u ≤ v
      · rw [show min u v = u by omega, show max u v = v by omega]; exact h0
      · rw [show min u v = v by omega, show max u v = u by omega, hw.2.2.1]; exact h0
    omega)
  refine ⟨A, B, h1, h2, h3, srt_ext (Ln_srt hn) ?_ (fun e => ?_)⟩
  · have hsr := Ln_srt (w := w) hn
    rw [h1] at hsr
    obtain ⟨p1, p2, p3⟩ := List.pairwise_append.mp hsr
    refine List.pairwise_append.mpr ⟨p1, List.pairwise_cons.mpr ⟨fun e he => ?_, p2⟩, fun x hx y hy => ?_⟩
    · exact h3 e he
    · rcases List.mem_cons.mp hy with q | q
      · rw [q]; exact h2 x hx
      · exact p3 x hx y q
  · have hmem : e ∈ A ++ (min u v, max u v, a) :: B ↔ e = (min u v, max u v, a) ∨ e ∈ Ln n w := by
      rw [h1]
      simp only [List.mem_append, List.mem_cons]
      constructor
      · rintro (q | q | q)
        · exact Or.inr (Or.inl q)
        · exact Or.inl q
        · exact Or.inr (Or.inr q)
      · rintro (q | q | q)
        · exact Or.inr (Or.inl q)
        · exact Or.inl q
        · exact Or.inr (Or.inr q)
    rw [hmem, mem_Ln, mem_Ln]
    obtain ⟨x, y, z⟩ := e
    simp only [Prod.mk.injEq]
    unfold w2
    have hsym := hw.2.2.1 u v
    constructor
    · rintro ⟨q1, q2, q3, q4⟩
      by_cases c : (x = u ∧ y = v) ∨ (x = v ∧ y = u)
      · rw [if_pos c] at q3
        exact Or.inl (by omega)
      · rw [if_neg c] at q3
        exact Or.inr ⟨q1, q2, q3, q4⟩
    · rintro (⟨q1, q2, q3⟩ | ⟨q1, q2, q3, q4⟩)
      · have c : (x = u ∧ y = v) ∨ (x = v ∧ y = u) := by omega
        rw [if_pos c]
        omega
      · have c : ¬ ((x = u ∧ y = v) ∨ (x = v ∧ y = u)) := by
          rintro (⟨rfl, rfl⟩ | ⟨rfl, rfl⟩) <;> omega
        rw [if_neg c]
        exact ⟨q1, q2, q3, q4⟩
theorem Ln_set {n i a : Nat} {w : Nat → Nat → Nat} {e : Nat × Nat × Nat} (hw : wok n w) (he : (Ln n w)[i]? = some e) (ha : a ≠ 0) : Ln n (w2 w e.1 e.2.1 a) = (Ln n w).set i (e.1, e.2.1, a) := by
  have hn := hw.2.1
  have hs := Ln_srt (w := w) hn
  have hm := mem_Ln.mp (List.mem_of_getElem? he)
  have hlt := (List.getElem?_eq_some_iff.mp he).1
  refine srt_ext (Ln_srt hn) ?_ (fun f => ?_)
  · refine List.pairwise_iff_getElem.mpr (fun x y hx hy hxy => ?_)
    rw [List.length_set] at hx hy
    have hp := List.pairwise_iff_getElem.mp hs x y hx hy hxy
    have key : ∀ z (hz : z < (Ln n w).length), lk (((Ln n w).set i (e.1, e.2.1, a))[z]'(by rw [List.length_set]; exact hz)) = lk (Ln n w)[z] := by
      intro z hz
      rw [List.getElem_set]
      split
      · rename_i q
        subst q
        have : (Ln n w)[i] = e := (List.getElem?_eq_some_iff.mp he).2
        rw [this]
        rfl
      · rfl
    rw [key x hx, key y hy]
    exact hp
  · have hmem : f ∈ (Ln n w).set i (e.1, e.2.1, a) ↔ f = (e.1, e.2.1, a) ∨ ∃ j, j ≠ i ∧ (Ln n w)[j]? = some f := by
      rw [List.mem_iff_getElem?]
      constructor
      · rintro ⟨j, hj⟩
        rw [List.getElem?_set] at hj
        by_cases c : i = j
        · rw [if_pos c, if_pos hlt] at hj
          cases hj
          exact Or.inl rfl
        · rw [if_neg c] at hj
          exact Or.inr ⟨j, fun q => c q.symm, hj⟩
      · rintro (q | ⟨j, hj, hf⟩)
        · exact ⟨i, by rw [List.getElem?_set, if_pos rfl, if_pos hlt, q]⟩
        · exact ⟨j, by rw [List.getElem?_set, if_neg (fun q => hj q.symm), hf]⟩
    rw [hmem, mem_Ln]
    obtain ⟨x, y, z⟩ := f
    obtain ⟨p, q, b⟩ := e
    dsimp only at hm ⊢
    unfold w2
    constructor
    · rintro ⟨q1, q2, q3, q4⟩
      by_cases c : (x = p ∧ y = q) ∨ (x = q ∧ y = p)
      · rw [if_pos c] at q3
        refine Or.inl ?_
        simp only [Prod.mk.injEq]
        omega
      · rw [if_neg c] at q3
        have hf : ((x, y, z) : Nat × Nat × Nat) ∈ Ln n w := mem_Ln.mpr ⟨q1, q2, q3, q4⟩
        obtain ⟨j, hj⟩ := List.getElem?_of_mem hf
        refine Or.inr ⟨j, fun h9 => ?_, hj⟩
        subst h9
        rw [he] at hj
        simp only [Option.some.injEq, Prod.mk.injEq] at hj
        exact c (Or.inl ⟨hj.1.symm, hj.2.1.symm⟩)
    · rintro (h9 | ⟨j, hj, hf⟩)
      · simp only [Prod.mk.injEq] at h9
        obtain ⟨rfl, rfl, rfl⟩ := h9
        rw [if_pos (Or.inl ⟨rfl, rfl⟩)]
        exact ⟨hm.1, hm.2.1, rfl, ha⟩
      · have hfm := mem_Ln.mp (List.mem_of_getElem? hf)
        dsimp only at hfm
        have c : ¬ ((x = p ∧ y = q) ∨ (x = q ∧ y = p)) := by
          rintro (⟨rfl, rfl⟩ | ⟨rfl, rfl⟩)
          · exact hj (srt_inj hs hf he rfl)
          · omega
        rw [if_neg c]
        exact hfm
theorem Ln_cut {n i : Nat} {w : Nat → Nat → Nat} {e : Nat × Nat × Nat} (hw : wok n w) (he : (Ln n w)[i]? = some e) : Ln n (w2 w e.1 e.2.1 0) = (Ln n w).eraseIdx i := by
  have hn := hw.2.1
  have hs := Ln_srt (w := w) hn
  have hm := mem_Ln.mp (List.mem_of_getElem? he)
  refine srt_ext (Ln_srt hn) (List.Pairwise.sublist (List.eraseIdx_sublist _ _) hs) (fun f => ?_)
  rw [List.mem_eraseIdx_iff_getElem?, mem_Ln]
  obtain ⟨x, y, z⟩ := f
  obtain ⟨p, q, b⟩ := e
  dsimp only at hm ⊢
  unfold w2
  constructor
  · rintro ⟨q1, q2, q3, q4⟩
    by_cases c : (x = p ∧ y = q) ∨ (x = q ∧ y = p)
    · rw [if_pos c] at q3
      omega
    · rw [if_neg c] at q3
      have hf : ((x, y, z) : Nat × Nat × Nat) ∈ Ln n w := mem_Ln.mpr ⟨q1, q2, q3, q4⟩
      obtain ⟨j, hj⟩ := List.getElem?_of_mem hf
      refine ⟨j, fun h9 => ?_, hj⟩
      subst h9
      rw [he] at hj
      simp only [Option.some.injEq, Prod.mk.injEq] at hj
      exact c (Or.inl ⟨hj.1.symm, hj.2.1.symm⟩)
  · rintro ⟨j, hj, hf⟩
    have hfm := mem_Ln.mp (List.mem_of_getElem? hf)
    dsimp only at hfm
    have c : ¬ ((x = p ∧ y = q) ∨ (x = q ∧ y = p)) := by
      rintro (⟨rfl, rfl⟩ | ⟨rfl, rfl⟩)
      · exact hj (srt_inj hs hf he rfl)
      · omega
    rw [if_neg c]
    exact hfm
/-- the class's notes -/
theorem f_pnotes_yes {σ : Sg} {c u v a : Nat} (h : gI σ 14 = nI c) (hc : c ≤ 12) : ∃ σ', f_X2_notes σ (nI u) (nI v) (nI a) = some σ' ∧ Fr [14] [25, 26, 27] [] σ σ' ∧ gI σ' 14 = nI (if c = 12 then 12 else c + 1) ∧ (c < 12 → ∀ j, gA σ' 25 j = (if j = c then nI u else gA σ 25 j) ∧ gA σ' 26 j = (if j = c then nI v else gA σ 26 j) ∧ gA σ' 27 j = (if j = c then nI a else gA σ 27 j)) ∧ (c = 12 → ∀ j, j < 12 → gA σ' 25 j = (if j = 11 then nI u else gA σ 25 (j + 1)) ∧ gA σ' 26 j = (if j = 11 then nI v else gA σ 26 (j + 1)) ∧ gA σ' 27 j = (if j = 11 then nI a else gA σ 27 (j + 1))) := by
  have J : ∀ (τ : Sg) (d : Nat), gI τ 14 = nI d → d < 12 → f_X2_notes_J13 (nI u) (nI v) (nI a) τ = some (pI (pA (pA (pA τ 25 d (nI u)) 26 d (nI v)) 27 d (nI a)) 14 (nI (d + 1))) := by
    intro τ d hd hlt
    unfold f_X2_notes_J13
    simp only [vl_e, gI_pA, hd, nI_clamp (show d < 2 ^ 31 by omega), gd_h (okI_nI hlt (show 12 < 2 ^ 31 by omega)), nI_1]
  unfold f_X2_notes
  rw [h, il_12]
  by_cases c12 : c = 12
  · subst c12
    rw [if_neg (nI_nlt (Nat.le_refl _) (by omega))]
    unfold f_X2_loseOldest
    have hok : okC (1 : Int32) (0 : Int32) (11 : Int32) 12 12 = true := by decide
    simp only [vl_e, gI_pAr, show gI (pI σ 14 (11 : Int32)) 14 = (11 : Int32) from rfl, gd_h hok, Option.bind_some]
    rw [J _ 11 rfl (by omega), show (11 : Int32).toNatClampNeg = 11 from rfl, show (1 : Int32).toNatClampNeg = 1 from rfl, c0]
    refine ⟨_, rfl, ?_, rfl, fun q => by omega, fun _ j hj => ?_⟩
    · exact ((((((Fr.pI (by simp)).tr (Fr.pAr (by simp))).tr (Fr.pAr (by simp))).tr (Fr.pAr (by simp))).tr (Fr.pA (by simp))).tr (Fr.pA (by simp))).tr ((Fr.pA (by simp)).tr (Fr.pI (by simp)))
    · show upd (va_cpy (gA σ 25) (gA σ 25) 1 0 11) 11 (nI u) j = _ ∧ upd (va_cpy (gA σ 26) (gA σ 26) 1 0 11) 11 (nI v) j = _ ∧ upd (va_cpy (gA σ 27) (gA σ 27) 1 0 11) 11 (nI a) j = _
      rw [upd_at, upd_at, upd_at]
      by_cases c : j = 11
      · simp only [if_pos c]
        exact ⟨trivial, trivial, trivial⟩
      · simp only [if_neg c]
        rw [pk_cpy_in (by omega) (by omega), pk_cpy_in (by omega) (by omega), pk_cpy_in (by omega) (by omega), show 1 + (j - 0) = j + 1 by omega]
        exact ⟨rfl, rfl, rfl⟩
  · rw [if_pos (nI_lt (show c < 12 by omega) (by omega)), J _ c h (by omega), if_neg c12]
    exact ⟨_, rfl, ((Fr.pA (by simp)).tr (Fr.pA (by simp))).tr ((Fr.pA (by simp)).tr (Fr.pI (by simp))), rfl, fun _ j => ⟨rfl, rfl, rfl⟩, fun q => absurd q c12⟩
