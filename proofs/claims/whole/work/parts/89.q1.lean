/-! sets of lines as numbers; forests (the reference) -/
theorem s_l : ∀ n, n < 32 → ((nI n &&& 31).toBitVec.smod 32).toNat = n := by decide +kernel
theorem nx_and (a b : Nat) : nI a &&& nI b = nI (a &&& b) := by
  apply Int32.toBitVec_inj.1
  show BitVec.ofNat 32 a &&& BitVec.ofNat 32 b = BitVec.ofNat 32 (a &&& b)
  apply BitVec.eq_of_getLsbD_eq
  intro i hi
  simp [hi]
theorem sh_1 : ∀ m, m < 31 → (1 : Int32) <<< (nI m &&& 31) = nI (2 ^ m) := by decide +kernel
theorem sh_r {s k : Nat} (hs : s < 2 ^ 31) (hk : k < 32) : nI s >>> (nI k &&& 31) = nI (s / 2 ^ k) := by
  apply Int32.toBitVec_inj.1
  rw [Int32.toBitVec_shiftRight]
  show (BitVec.ofNat 32 s).sshiftRight ((nI k &&& 31).toBitVec.smod 32).toNat = BitVec.ofNat 32 (s / 2 ^ k)
  rw [s_l k hk, BitVec.sshiftRight_eq_of_msb_false]
  · apply BitVec.eq_of_toNat_eq
    rw [BitVec.toNat_ushiftRight, BitVec.toNat_ofNat, BitVec.toNat_ofNat, Nat.mod_eq_of_lt (show s < 2 ^ 32 by omega), Nat.shiftRight_eq_div_pow, Nat.mod_eq_of_lt]
    have : s / 2 ^ k ≤ s := Nat.div_le_self _ _
    omega
  · rw [BitVec.msb_eq_decide, BitVec.toNat_ofNat, Nat.mod_eq_of_lt (show s < 2 ^ 32 by omega)]
    simp
    omega
theorem and1 (a : Nat) : nI a &&& 1 = nI (a % 2) := by rw [il_1, nx_and, Nat.and_one_is_mod]
theorem bit_at {s k : Nat} (hs : s < 2 ^ 31) (hk : k < 32) : (nI s >>> (nI k &&& 31)) &&& 1 = nI (s / 2 ^ k % 2) := by rw [sh_r hs hk, and1]
def sub {α : Type} : List α → Nat → List α
  | [], _ => []
  | e :: L, s => if s % 2 = 1 then e :: sub L (s / 2) else sub L (s / 2)
theorem div_pow_succ (s i : Nat) : s / 2 / 2 ^ i = s / 2 ^ (i + 1) := by rw [Nat.div_div_eq_div_mul, Nat.pow_succ, Nat.mul_comm]
theorem sub_take {α : Type} : ∀ (L : List α) (s i : Nat) (e : α), L[i]? = some e → sub (L.take (i + 1)) s = sub (L.take i) s ++ (if s / 2 ^ i % 2 = 1 then [e] else [])
  | [], _, _, _, h => by simp at h
  | a :: L, s, 0, e, h => by
    simp at h
    subst h
    simp only [List.take_succ_cons, List.take_zero, sub, Nat.pow_zero, Nat.div_one, List.nil_append]
  | a :: L, s, i + 1, e, h => by
    rw [List.getElem?_cons_succ] at h
    have ih := sub_take L (s / 2) i e h
    rw [div_pow_succ] at ih
    simp only [List.take_succ_cons, sub]
    rw [ih]
    split
    · rfl
    · rfl
/-- how many -/
def cnt (s : Nat) : Nat := ((List.range 10).map (fun k => s / 2 ^ k % 2)).sum
theorem cnt_sub {α : Type} : ∀ (L : List α) (m s : Nat), L.length ≤ m → s < 2 ^ L.length → ((List.range m).map (fun k => s / 2 ^ k % 2)).sum = (sub L s).length
  | [], m, s, _, h => by
    have h0 : s = 0 := by simpa using h
    subst h0
    simp only [sub, List.length_nil]
    induction m with
    | zero => rfl
    | succ m ih =>
      rw [sum_range_succ, ih (by simp)]
      simp
  | a :: L, 0, s, h, _ => by simp at h
  | a :: L, m + 1, s, h, hs => by
    have h2 : s / 2 < 2 ^ L.length := by
      rw [List.length_cons, Nat.pow_succ] at hs
      omega
    have ih := cnt_sub L m (s / 2) (by simpa using h) h2
    rw [List.range_succ_eq_map, List.map_cons, List.sum_cons, List.map_map]
    have e1 : (fun k => s / 2 ^ k % 2) ∘ Nat.succ = fun k => s / 2 / 2 ^ k % 2 := by
      funext k
      show s / 2 ^ (k + 1) % 2 = s / 2 / 2 ^ k % 2
      rw [div_pow_succ]
    rw [e1, ih]
    simp only [sub, Nat.pow_zero, Nat.div_one]
    split
    · rename_i q
      rw [q, List.length_cons, Nat.add_comm]
    · rename_i q
      have : s % 2 = 0 := by omega
      rw [this, Nat.zero_add]
theorem f_ones_yes {s : Nat} (hs : s < 2 ^ 31) : f_X7_ones (nI s) = some (nI (cnt s)) := by
  unfold f_X7_ones
  have key := wl_run (body := fun a : Int32 × Int32 => f_X7_ones_B4 (nI s) a.1 a.2) (fun i => (nI (((List.range i).map (fun k => s / 2 ^ k % 2)).sum), nI i)) 10 (b := nI (cnt s)) (fun i hi => ?_) ?_ FU (FU_big (by omega))
  · rw [show ((0 : Int32), (0 : Int32)) = (nI (((List.range 0).map (fun k => s / 2 ^ k % 2)).sum), nI 0) from rfl, key]
    rfl
  · dsimp only
    unfold f_X7_ones_B4
    rw [il_10, if_neg (nI_ge hi (by omega)), bit_at hs (by omega), vl_e, vl_e, nI_add, nI_1, ← sum_range_succ (fun k => s / 2 ^ k % 2)]
  · rfl
/-- parts: two nodes are of one part if they have the same number -/
def jn (p : Nat → Nat) (e : Nat × Nat × Nat) : Nat → Nat := fun x => if p x = p e.2.1 then p e.1 else p x
def fs (st : Bool × (Nat → Nat)) (e : Nat × Nat × Nat) : Bool × (Nat → Nat) := (st.1 && !(st.2 e.1 == st.2 e.2.1), jn st.2 e)
def fo (S : List (Nat × Nat × Nat)) : Bool × (Nat → Nat) := S.foldl fs (true, id)
def bI (b : Bool) : Int32 := if b then 1 else 0
theorem bI_ok (b : Bool) : okZ (bI b) = true := by cases b <;> decide
theorem bI_0 (b : Bool) : (bI b = 0) ↔ b = false := by cases b <;> decide
def PartAt (σ : Sg) (p : Nat → Nat) : Prop := ∀ x, x < 6 → gA σ 51 x = nI (p x) ∧ p x < 6
theorem parts_init {σ : Sg} : ∃ σ', wl (fun a : Int32 × Sg => f_X7_parts_B4 a.1 a.2) FU ((0 : Int32), σ) = some σ' ∧ (Fr [] [51] [] σ σ' ∧ PartAt σ' id) := by
  refine wl_inv (N := 6) (I := fun i (a : Int32 × Sg) => a.1 = nI i ∧ Fr [] [51] [] σ a.2 ∧ ∀ x, x < i → gA a.2 51 x = nI x) (fun i a hi hI => ?_) FU 0 ((0 : Int32), σ) ⟨rfl, Fr.rf, fun x hx => by omega⟩ (Nat.zero_le _) (FU_big (by omega))
  obtain ⟨y, σ1⟩ := a
  obtain ⟨hy, hF, hA⟩ := hI
  dsimp only at hy hF hA ⊢
  subst hy
  unfold f_X7_parts_B4
  rw [il_6]
  by_cases he : i = 6
  · subst he
    exact ⟨.inr σ1, by rw [if_pos (nI_le (Nat.le_refl _) (by omega))], Or.inr ⟨σ1, rfl, hF, fun x hx => ⟨hA x hx, hx⟩⟩⟩
  · refine ⟨_, by rw [if_neg (nI_ge (show i < 6 by omega) (by omega)), gd_h (okI_nI (by omega) (by omega)), vl_e, vl_e, nI_1, nI_clamp (by omega)], Or.inl ⟨_, rfl, by omega, rfl, hF.tr (Fr.pA (List.mem_singleton.mpr rfl)), fun x hx => ?_⟩⟩
    dsimp only
    rw [gA_pA, if_pos rfl, upd_at]
    by_cases c : x = i
    · rw [if_pos c, c]
    · rw [if_neg c]
      exact hA x (by omega)
theorem parts_join {σ : Sg} {p : Nat → Nat} {a b : Nat} (ha : a < 6) (hb : b < 6) (h : PartAt σ p) : ∃ σ', wl (fun q : Int32 × Sg => f_X7_parts_B93 (nI a) (nI b) q.1 q.2) FU ((0 : Int32), σ) = some σ' ∧ (Fr [] [51] [] σ σ' ∧ PartAt σ' (fun x => if p x = b then a else p x)) := by
  refine wl_inv (N := 6) (I := fun i (q : Int32 × Sg) => q.1 = nI i ∧ Fr [] [51] [] σ q.2 ∧ (∀ x, x < i → gA q.2 51 x = nI (if p x = b then a else p x)) ∧ ∀ x, i ≤ x → gA q.2 51 x = gA σ 51 x) (fun i q hi hI => ?_) FU 0 ((0 : Int32), σ) ⟨rfl, Fr.rf, fun x hx => by omega, fun x _ => rfl⟩ (Nat.zero_le _) (FU_big (by omega))
  obtain ⟨y, σ1⟩ := q
  obtain ⟨hy, hF, hA, hB⟩ := hI
  dsimp only at hy hF hA hB ⊢
  subst hy
  unfold f_X7_parts_B93
  rw [il_6]
  by_cases he : i = 6
  · subst he
    refine ⟨.inr σ1, by rw [if_pos (nI_le (Nat.le_refl _) (by omega))], Or.inr ⟨σ1, rfl, hF, fun x hx => ⟨hA x hx, ?_⟩⟩⟩
    have := (h x hx).2
    show (if p x = b then a else p x) < 6
    split <;> omega
  · obtain ⟨g1, g2⟩ := h i (by omega)
    have g3 : gA σ1 51 i = nI (p i) := (hB i (Nat.le_refl _)).trans g1
    have step : ∀ v, v = nI (if p i = b then a else p i) → (∀ x, x < i + 1 → gA (pA σ1 51 i v) 51 x = nI (if p x = b then a else p x)) ∧ ∀ x, i + 1 ≤ x → gA (pA σ1 51 i v) 51 x = gA σ 51 x := by
      intro v hv
      refine ⟨fun x hx => ?_, fun x hx => ?_⟩
      · rw [gA_pA, if_pos rfl, upd_at]
        by_cases c : x = i
        · subst c
          rw [if_pos rfl, hv]
        · rw [if_neg c]
          exact hA x (by omega)
      · rw [gA_pA, if_pos rfl, upd_at, if_neg (by omega)]
        exact hB x (by omega)
    by_cases c : p i = b
    · obtain ⟨q1, q2⟩ := step (nI a) (by rw [if_pos c])
      exact ⟨_, by rw [if_neg (nI_ge (show i < 6 by omega) (by omega)), gd_h (okI_nI (by omega) (by omega)), nI_clamp (by omega), g3, if_pos (by rw [c]), gd_h (okI_nI (by omega) (by omega)), vl_e, vl_e, nI_1], Or.inl ⟨_, rfl, by omega, rfl, hF.tr (Fr.pA (List.mem_singleton.mpr rfl)), q1, q2⟩⟩
    · obtain ⟨q1, q2⟩ := step (nI (p i)) (by rw [if_neg c])
      exact ⟨_, by rw [if_neg (nI_ge (show i < 6 by omega) (by omega)), gd_h (okI_nI (by omega) (by omega)), nI_clamp (by omega), g3, if_neg (by rw [nI_eq (by omega) (by omega)]; exact c), gd_h (okI_nI (by omega) (by omega)), vl_e, gd_h (okI_nI (by omega) (by omega)), vl_e, vl_e, nI_1], Or.inl ⟨_, rfl, by omega, rfl, hF.tr (Fr.pA (List.mem_singleton.mpr rfl)), q1, q2⟩⟩
theorem f_parts_yes {σ : Sg} {L : List (Nat × Nat × Nat)} {s : Nat} (h : RowAt σ 0 L) (hl : L.length ≤ 10) (hb : ∀ e ∈ L, e.1 < 6 ∧ e.2.1 < 6) (hs : s < 2 ^ 31) : ∃ σ', f_X7_parts σ (nI s) = some (bI (fo (sub L s)).1, σ') ∧ Fr [] [51] [] σ σ' ∧ PartAt σ' (fo (sub L s)).2 := by
  obtain ⟨σ0, a1, a2, a3⟩ := parts_init (σ := σ)
  unfold f_X7_parts
  rw [a1, Option.bind_some]
  have key := wl_inv (body := fun a : Int32 × Int32 × Sg => f_X7_parts_B25 (nI s) a.1 a.2.1 a.2.2) (N := L.length) (I := fun i (a : Int32 × Int32 × Sg) => a.1 = bI (fo (sub (L.take i) s)).1 ∧ a.2.1 = nI i ∧ Fr [] [51] [] σ a.2.2 ∧ PartAt a.2.2 (fo (sub (L.take i) s)).2) (Post := fun b : Int32 × Sg => b.1 = bI (fo (sub L s)).1 ∧ Fr [] [51] [] σ b.2 ∧ PartAt b.2 (fo (sub L s)).2) (fun i a hi hI => ?_) FU 0 ((1 : Int32), (0 : Int32), σ0) ⟨rfl, rfl, a2, a3⟩ (Nat.zero_le _) (FU_big (by omega))
  · obtain ⟨⟨x, σ'⟩, h1, h2, h3, h4⟩ := key
    dsimp only at h2 h3 h4
    subst h2
    rw [h1, Option.bind_some]
    dsimp only
    rw [gd_h (bI_ok _)]
    exact ⟨σ', rfl, h3, h4⟩
  · obtain ⟨x, y, σ1⟩ := a
    obtain ⟨hx, hy, hF, hp⟩ := hI
    dsimp only at hx hy hF hp ⊢
    subst hy
    have hr1 : RowAt σ1 0 L := frow hF (by simp) h
    by_cases he : i = L.length
    · subst he
      rw [List.take_length] at hx hp
      subst hx
      refine ⟨.inr (bI (fo (sub L s)).1, σ1), ?_, Or.inr ⟨(bI (fo (sub L s)).1, σ1), rfl, rfl, hF, hp⟩⟩
      unfold f_X7_parts_B25
      rw [f_lines_yes hr1, Option.bind_some, if_pos (nI_le (Nat.le_refl _) (by omega))]
    · have hlt : i < L.length := by omega
      obtain ⟨e, hg⟩ : ∃ e, L[i]? = some e := ⟨_, List.getElem?_eq_getElem hlt⟩
      have hst := sub_take L s i e hg
      obtain ⟨r1, r2, -⟩ := hr1.2 i e hg
      rw [Nat.zero_add] at r1 r2
      have hbe := hb e (List.mem_of_getElem? hg)
      generalize hfo : fo (sub (L.take i) s) = st at hx hp
      obtain ⟨b, p⟩ := st
      dsimp only at hx hp
      subst hx
      have hbody0 : f_X7_parts_B25 (nI s) (bI b) (nI i) σ1 = (if nI (s / 2 ^ i % 2) = (1 : Int32) then (if bI b = 0 then f_X7_parts_J88 (nI i) σ1 (nI (p e.1)) (nI (p e.2.1)) else (if nI (p e.1) = nI (p e.2.1) then f_X7_parts_J88 (nI i) σ1 (nI (p e.1)) (nI (p e.2.1)) else f_X7_parts_J89 (nI i) σ1 (nI (p e.1)) (nI (p e.2.1)) (1 : Int32))) else some (.inl (bI b, nI (i + 1), σ1))) := by
        unfold f_X7_parts_B25
        rw [f_lines_yes hr1, Option.bind_some, if_neg (nI_ge hlt (by omega)), bit_at hs (by omega), il_1, il_11, nI_add, nI_add, gd_h (okI_nI (by omega) (by omega)), nI_clamp (by omega), r1, gd_h (okI_nI (by omega) (by omega)), nI_clamp (by omega), vl_e, gd_h (okI_nI (by omega) (by omega)), nI_clamp (by omega), r2, gd_h (okI_nI (by omega) (by omega)), nI_clamp (by omega), vl_e, (hp e.1 hbe.1).1, (hp e.2.1 hbe.2).1, vl_e, nI_add]
      by_cases cb : s / 2 ^ i % 2 = 1
      · rw [if_pos cb] at hst
        have hfo2 : fo (sub (L.take (i + 1)) s) = fs (b, p) e := by
          rw [hst]
          unfold fo at hfo ⊢
          rw [List.foldl_append, hfo]
          rfl
        obtain ⟨σ2, j1, j2, j3⟩ := parts_join (hp e.1 hbe.1).2 (hp e.2.1 hbe.2).2 hp
        have hJ : ∀ z : Int32, f_X7_parts_J89 (nI i) σ1 (nI (p e.1)) (nI (p e.2.1)) z = some (.inl (z, nI (i + 1), σ2)) := by
          intro z
          unfold f_X7_parts_J89
          rw [j1, Option.bind_some, vl_e, nI_1]
        refine ⟨.inl (bI (fs (b, p) e).1, nI (i + 1), σ2), ?_, Or.inl ⟨_, rfl, hlt, by rw [hfo2], rfl, hF.tr j2, by rw [hfo2]; exact j3⟩⟩
        rw [hbody0, if_pos (by rw [cb]; rfl)]
        unfold f_X7_parts_J88
        rw [hJ, hJ]
        have e1 : (nI (p e.1) = nI (p e.2.1)) ↔ p e.1 = p e.2.1 := nI_eq (by have := (hp e.1 hbe.1).2; omega) (by have := (hp e.2.1 hbe.2).2; omega)
        unfold fs
        dsimp only
        cases b
        · rfl
        · rw [if_neg (by decide)]
          by_cases c2 : p e.1 = p e.2.1
          · rw [if_pos (e1.mpr c2), c2]
            simp [bI]
          · rw [if_neg (fun q => c2 (e1.mp q))]
            simp [bI, c2]
      · rw [if_neg cb, List.append_nil] at hst
        refine ⟨_, ?_, Or.inl ⟨(bI b, nI (i + 1), σ1), rfl, hlt, by rw [hst, hfo], rfl, hF, by rw [hst, hfo]; exact hp⟩⟩
        have c0' : s / 2 ^ i % 2 = 0 := by omega
        rw [hbody0, if_neg (by rw [c0']; decide)]
/-- weights -/
def wt (S : List (Nat × Nat × Nat)) : Nat := S.foldl (fun a e => a * e.2.2) 1
theorem nI_64 {n : Nat} (h : n < 2 ^ 31) : (nI n).toInt64 = lN n := nI_l h
theorem f_weight_yes {σ : Sg} {L : List (Nat × Nat × Nat)} {s : Nat} (h : RowAt σ 0 L) (hl : L.length ≤ 10) (hb : ∀ e ∈ L, e.2.2 ≤ 9) (hs : s < 2 ^ 31) : f_X7_weight σ (nI s) = some (lN (wt (sub L s))) := by
  unfold f_X7_weight
  have key := wl_run (body := fun a : Int64 × Int32 => f_X7_weight_B5 σ (nI s) a.1 a.2) (fun i => (lN (wt (sub (L.take i) s)), nI i)) L.length (b := lN (wt (sub L s))) (fun i hi => ?_) ?_ FU (FU_big (by omega))
  · rw [show ((1 : Int64), (0 : Int32)) = (lN (wt (sub (L.take 0) s)), nI 0) from rfl, key]
    rfl
  · dsimp only
    obtain ⟨e, hg⟩ : ∃ e, L[i]? = some e := ⟨_, List.getElem?_eq_getElem hi⟩
    have hst := sub_take L s i e hg
    obtain ⟨-, -, r3⟩ := h.2 i e hg
    rw [Nat.zero_add] at r3
    have hbe := hb e (List.mem_of_getElem? hg)
    unfold f_X7_weight_B5
    rw [f_lines_yes h, Option.bind_some, if_neg (nI_ge hi (by omega)), bit_at hs (by omega)]
    by_cases cb : s / 2 ^ i % 2 = 1
    · rw [if_pos (by rw [cb]; rfl), il_21, nI_add, gd_h (okI_nI (by omega) (by omega)), nI_clamp (by omega), r3, nI_64 (by omega), vl_e, lN_mul, vl_e, nI_1, hst, if_pos cb]
      unfold wt
      rw [List.foldl_append]
      rfl
    · have c0' : s / 2 ^ i % 2 = 0 := by omega
      rw [if_neg (by rw [c0']; decide), vl_e, vl_e, nI_1, hst, if_neg cb, List.append_nil, show (1 : Int64) = lN 1 from rfl, lN_mul, Nat.mul_one]
  · dsimp only
    unfold f_X7_weight_B5
    rw [f_lines_yes h, Option.bind_some, if_pos (nI_le (Nat.le_refl _) (by omega)), List.take_length]
