/-! contracts over that world, and the rows of a walk there -/
def AS (ad : Nat → Nat) (sz : Nat) : Nat → Prop := fun q => (∃ c, c < 56 ∧ q = ad c) ∨ sz ≤ q
abbrev tyL (cA : Nat → ClassId) : List (ClassId × FieldType) := [(cA 0, .int), (cA 1, .long), (cA 2, .boolean), (cA 3, .object "ChanceNets$Net"), (cA 4, .array .long)]
abbrev NWd : Cond := .methodLinkNest RX3 58 yX6_commonDivisor "ChanceNets"
def WB (dC : Nat → ClassId) (dI : Nat → Nat → Nat) (ad : Nat → Nat) (cA : Nat → ClassId) (A : Nat → Prop) (σ : Sg) (t : State) : Prop := va_P (dC, dI) vwCl (WL ad cA σ) t.heap ∧ va_K (dC, dI) vwCl (tyL cA) t ∧ va_D A (WL ad cA σ)
def PreK (dC : Nat → ClassId) (dI : Nat → Nat → Nat) (ad : Nat → Nat) (cA : Nat → ClassId) (sz : Nat) (av : List Value) (σ : Sg) : Array Value → State → Prop := va_Pc av (fun U => U.heap.size = sz ∧ WB dC dI ad cA (fun _ => True) σ U ∧ va_Nw NWd U)
abbrev RM (fr lo : Nat) : Room := { frames := fr, cells := 0, slots := 0, locals := lo }
def Ki (l : Launch) (dC : Nat → ClassId) (dI : Nat → Nat → Nat) (ad : Nat → Nat) (cA : Nat → ClassId) (y : MethodName) (ws : List Cond) (fr lo : Nat) (av : List Value) (σ : Sg) (z : Int32 × Sg) : Prop := ∀ sz : Nat, Met l y ws (RM fr lo) (PreK dC dI ad cA sz av σ) (va_Qi (fun r u => r = z.1 ∧ u = z.2) (WB dC dI ad cA (AS ad sz)) (AS ad sz)) 0 0 (AS ad sz)
def Kl (l : Launch) (dC : Nat → ClassId) (dI : Nat → Nat → Nat) (ad : Nat → Nat) (cA : Nat → ClassId) (y : MethodName) (ws : List Cond) (fr lo : Nat) (av : List Value) (σ : Sg) (z : Int64 × Sg) : Prop := ∀ sz : Nat, Met l y ws (RM fr lo) (PreK dC dI ad cA sz av σ) (va_Ql (fun r u => r = z.1 ∧ u = z.2) (WB dC dI ad cA (AS ad sz)) (AS ad sz)) 0 0 (AS ad sz)
def Kv (l : Launch) (dC : Nat → ClassId) (dI : Nat → Nat → Nat) (ad : Nat → Nat) (cA : Nat → ClassId) (y : MethodName) (ws : List Cond) (fr lo : Nat) (av : List Value) (σ : Sg) (z : Sg) : Prop := ∀ sz : Nat, Met l y ws (RM fr lo) (PreK dC dI ad cA sz av σ) (va_Qv (fun u => u = z) (WB dC dI ad cA (AS ad sz)) (AS ad sz)) 0 0 (AS ad sz)
def ST (dC : Nat → ClassId) (dI : Nat → Nat → Nat) (ad : Nat → Nat) (cA : Nat → ClassId) (s : State) (σ : Sg) (H : Heap) (locs : List Loc) : Prop := va_P (dC, dI) vwCl (WL ad cA σ) H ∧ va_D (AS ad s.heap.size) (WL ad cA σ) ∧ va_S (AS ad s.heap.size) s.heap H locs
theorem fb {dC : Nat → ClassId} {dI : Nat → Nat → Nat} {ad : Nat → Nat} {cA : Nat → ClassId} {sz : Nat} {av : List Value} {σ : Sg} : FrameBlind (PreK dC dI ad cA sz av σ) := fun a U g mk q => by
  obtain ⟨q0, q1, ⟨qP, qK, qD⟩, qN⟩ := q
  exact ⟨q0, q1, ⟨qP, va_K.moved (u := U) (U := U.calling g mk a) (Vm.Alike.refl U.vm) qK, qD⟩, va_Nw.same rfl (u := U) rfl qN⟩
theorem AS_mono {ad : Nat → Nat} {a b : Nat} (h : a ≤ b) {q : Nat} (hq : AS ad b q) : AS ad a q := by
  rcases hq with h1 | h1
  · exact Or.inl h1
  · exact Or.inr (Nat.le_trans h h1)
theorem WL_AS {ad : Nat → Nat} {cA : Nat → ClassId} {σ : Sg} {sz k : Nat} {q : Nat × va_E} (h : (WL ad cA σ)[k]? = some q) : AS ad sz q.1 := by
  by_cases hk : k < 56
  · rw [WL_at hk] at h
    cases h
    exact Or.inl ⟨k, hk, rfl⟩
  · unfold WL at h
    rw [List.getElem?_eq_none (by simp; omega)] at h
    cases h
section RW
variable {p : Program} {l : Launch} {e : Env} {R : Room} {s : State} {m : MethodId} {args : Array Value} {below : List Frame} {meth : Method} {c : Code} {H : Heap} {locs : List Loc} {cells slots : Nat} {Q : State → Prop}
variable {cc : ByteArray} {pc : Nat} {ls : Array Slot} {rest : List Value} {dC : Nat → ClassId} {dI : Nat → Nat → Nat} {ad : Nat → Nat} {cA : Nat → ClassId} {σ : Sg}
theorem r_get (hx : p.tables.exec = Jvm.exec) (hb : c.code = cc) {own ref C : String} {T : u_T} {N ci index : Nat} {Ts : List Cond} (hts : ∀ w ∈ Ts, w.before args s = true) (hin : ∀ w ∈ u_ws C T N, w ∈ Ts) (hown : s.vm.findClass own = some m.cls) (hK : va_K (dC, dI) vwCl (tyL cA) s) (hS : ST dC dI ad cA s σ H locs) {q : Nat} (hq : q < 56) {fs : List Value} (he : EE ad cA σ q = .inr (ci, fs)) (hc : vwCl[ci]? = some (C, T, N)) (k : Nat) (hk : k < N) (hlink : (Cond.fieldLink own index ref (T k).2.1 (T k).2.2.1).before args s = true) (href : ref = (T k).1) {v : Value} (hv : fs[k]? = some v) (hdg : decode cc pc = .ok (.getfield index, 3))
    (kk : W p l e R s m args below meth c H locs cells slots Q (F0 m (pc + 3) ls (v :: rest))) : W p l e R s m args below meth c H locs cells slots Q (F0 m pc ls (.ref (ad q) :: rest)) :=
  va_get (D := (dC, dI)) hx hb hts hin hown hK hS.1 q (by rw [WL_at hq, he]) hc k hk hlink (fun x h => by rw [href]; exact h) hv hdg kk
theorem r_put (hx : p.tables.exec = Jvm.exec) (hb : c.code = cc) {own ref C : String} {T : u_T} {N ci index : Nat} {Ts : List Cond} (hts : ∀ w ∈ Ts, w.before args s = true) (hin : ∀ w ∈ u_ws C T N, w ∈ Ts) (ty0 : Nat → FieldType) (hty : ∀ k, k < N → parseFieldDescriptor (T k).2.2.1 = some (ty0 k)) (hnm : ∀ a, a < N → ∀ b, b < N → a ≠ b → (T a).2.1 ≠ (T b).2.1) (hown : s.vm.findClass own = some m.cls) (hK : va_K (dC, dI) vwCl (tyL cA) s) (hS : ST dC dI ad cA s σ H locs) {q : Nat} (hq : q < 56) {fs : List Value} (he : EE ad cA σ q = .inr (ci, fs)) (hc : vwCl[ci]? = some (C, T, N)) (k : Nat) (hk : k < N) (hlink : (Cond.fieldLink own index ref (T k).2.1 (T k).2.2.1).before args s = true) (href : ref = (T k).1) (hfin : (T k).2.2.2 = false) {v : Value} (hn : narrow (ty0 k) v = v) (hfit : fits (ty0 k) v = true) (hl : k < fs.length) {σ' : Sg} (ho : ∀ d, d < 56 → d ≠ q → EE ad cA σ' d = EE ad cA σ d) (he' : EE ad cA σ' q = .inr (ci, fs.set k v)) (hdg : decode cc pc = .ok (.putfield index, 3))
    (kk : ∀ (H1 : Heap) (locs1 : List Loc), ST dC dI ad cA s σ' H1 locs1 → W p l e R s m args below meth c H1 locs1 cells slots Q (F0 m (pc + 3) ls rest)) : W p l e R s m args below meth c H locs cells slots Q (F0 m pc ls (v :: .ref (ad q) :: rest)) :=
  va_put (D := (dC, dI)) hx hb hts hin ty0 hty hnm hown hK hS.1 hS.2.1 hS.2.2 q (by rw [WL_at hq, he]) hc k hk hlink (fun x h => by rw [href]; exact h) hfin (hty k hk) hn hfit hl hdg (fun H1 locs1 hP hD hS1 => by
    rw [WL_set ho he'] at hP hD
    exact kk H1 locs1 ⟨hP, hD, hS1⟩)
theorem r_iald (hx : p.tables.exec = Jvm.exec) (hb : c.code = cc) (hK : va_K (dC, dI) vwCl (tyL cA) s) (hS : ST dC dI ad cA s σ H locs) {q : Nat} {i : Int32} (hi : okI i (lenA q) = true) (hdg : decode cc pc = .ok (.iaload, 1))
    (kk : W p l e R s m args below meth c H locs cells slots Q (F0 m (pc + 1) ls (.int (gA σ q i.toNatClampNeg) :: rest))) : W p l e R s m args below meth c H locs cells slots Q (F0 m pc ls (.int i :: .ref (ad q) :: rest)) :=
  va_iald hx hb hK hS.1 q 0 (by rw [WL_at (lenA_lt (okI_pos hi)), eA_at (okI_pos hi)]) rfl (okI_in hi) hdg kk
theorem r_zald (hx : p.tables.exec = Jvm.exec) (hb : c.code = cc) (hK : va_K (dC, dI) vwCl (tyL cA) s) (hS : ST dC dI ad cA s σ H locs) {q : Nat} {i : Int32} (hi : okI i (lenZ q) = true) (hdg : decode cc pc = .ok (.baload, 1))
    (kk : W p l e R s m args below meth c H locs cells slots Q (F0 m (pc + 1) ls (.int (gA σ q i.toNatClampNeg) :: rest))) : W p l e R s m args below meth c H locs cells slots Q (F0 m pc ls (.int i :: .ref (ad q) :: rest)) :=
  va_zald hx hb hK hS.1 q 2 (by rw [WL_at (lenZ_lt (okI_pos hi)), eZ_at (okI_pos hi)]) rfl (okI_in hi) hdg kk
theorem r_lald (hx : p.tables.exec = Jvm.exec) (hb : c.code = cc) (hK : va_K (dC, dI) vwCl (tyL cA) s) (hS : ST dC dI ad cA s σ H locs) {q : Nat} {i : Int32} (hi : okI i (lenJ q) = true) (hdg : decode cc pc = .ok (.laload, 1))
    (kk : W p l e R s m args below meth c H locs cells slots Q (F0 m (pc + 1) ls (.long (gJ σ q i.toNatClampNeg) :: rest))) : W p l e R s m args below meth c H locs cells slots Q (F0 m pc ls (.int i :: .ref (ad q) :: rest)) :=
  va_lald hx hb hK hS.1 q 1 (by rw [WL_at (lenJ_lt (okI_pos hi)), eJ_at (okI_pos hi)]) rfl (okI_in hi) hdg kk
theorem r_iast (hx : p.tables.exec = Jvm.exec) (hb : c.code = cc) (hK : va_K (dC, dI) vwCl (tyL cA) s) (hS : ST dC dI ad cA s σ H locs) {q : Nat} {i x : Int32} (hi : okI i (lenA q) = true) (hdg : decode cc pc = .ok (.iastore, 1))
    (kk : ∀ (H1 : Heap) (locs1 : List Loc), ST dC dI ad cA s (pA σ q i.toNatClampNeg x) H1 locs1 → W p l e R s m args below meth c H1 locs1 cells slots Q (F0 m (pc + 1) ls rest)) : W p l e R s m args below meth c H locs cells slots Q (F0 m pc ls (.int x :: .int i :: .ref (ad q) :: rest)) :=
  va_iast hx hb hK hS.1 hS.2.1 hS.2.2 q 0 (by rw [WL_at (lenA_lt (okI_pos hi)), eA_at (okI_pos hi)]) rfl (okI_in hi) hdg (fun H1 locs1 hP hD hS1 => by
    rw [WL_set (σ' := pA σ q i.toNatClampNeg x) (fun d _ h => eA d h) (by rw [eA_at (okI_pos hi)]; simp [gA, pA, pAr])] at hP hD
    exact kk H1 locs1 ⟨hP, hD, hS1⟩)
theorem r_zast (hx : p.tables.exec = Jvm.exec) (hb : c.code = cc) (hK : va_K (dC, dI) vwCl (tyL cA) s) (hS : ST dC dI ad cA s σ H locs) {q : Nat} {i x : Int32} (hn : vp_nar .boolean x = x) (hi : okI i (lenZ q) = true) (hdg : decode cc pc = .ok (.bastore, 1))
    (kk : ∀ (H1 : Heap) (locs1 : List Loc), ST dC dI ad cA s (pA σ q i.toNatClampNeg x) H1 locs1 → W p l e R s m args below meth c H1 locs1 cells slots Q (F0 m (pc + 1) ls rest)) : W p l e R s m args below meth c H locs cells slots Q (F0 m pc ls (.int x :: .int i :: .ref (ad q) :: rest)) :=
  va_zast hx hb hK hS.1 hS.2.1 hS.2.2 q 2 (by rw [WL_at (lenZ_lt (okI_pos hi)), eZ_at (okI_pos hi)]) rfl (okI_in hi) hdg (fun H1 locs1 hP hD hS1 => by
    rw [hn] at hP hD
    rw [WL_set (σ' := pA σ q i.toNatClampNeg x) (fun d _ h => eA d h) (by rw [eZ_at (okI_pos hi)]; simp [gA, pA, pAr])] at hP hD
    exact kk H1 locs1 ⟨hP, hD, hS1⟩)
theorem r_last (hx : p.tables.exec = Jvm.exec) (hb : c.code = cc) (hK : va_K (dC, dI) vwCl (tyL cA) s) (hS : ST dC dI ad cA s σ H locs) {q : Nat} {i : Int32} {x : Int64} (hi : okI i (lenJ q) = true) (hdg : decode cc pc = .ok (.lastore, 1))
    (kk : ∀ (H1 : Heap) (locs1 : List Loc), ST dC dI ad cA s (pJ σ q i.toNatClampNeg x) H1 locs1 → W p l e R s m args below meth c H1 locs1 cells slots Q (F0 m (pc + 1) ls rest)) : W p l e R s m args below meth c H locs cells slots Q (F0 m pc ls (.long x :: .int i :: .ref (ad q) :: rest)) :=
  va_last hx hb hK hS.1 hS.2.1 hS.2.2 q 1 (by rw [WL_at (lenJ_lt (okI_pos hi)), eJ_at (okI_pos hi)]) rfl (okI_in hi) hdg (fun H1 locs1 hP hD hS1 => by
    rw [WL_set (σ' := pJ σ q i.toNatClampNeg x) (fun d _ h => eJ d h) (by rw [eJ_at (okI_pos hi)]; simp [gJ, pJ, pJr])] at hP hD
    exact kk H1 locs1 ⟨hP, hD, hS1⟩)
/-- a row of the grid -/
theorem r_grid (hx : p.tables.exec = Jvm.exec) (hb : c.code = cc) (hK : va_K (dC, dI) vwCl (tyL cA) s) (hS : ST dC dI ad cA s σ H locs) {i : Int32} (hi : okI i 5 = true) (hdg : decode cc pc = .ok (.aaload, 1))
    (kk : W p l e R s m args below meth c H locs cells slots Q (F0 m (pc + 1) ls (.ref (ad (30 + i.toNatClampNeg)) :: rest))) : W p l e R s m args below meth c H locs cells slots Q (F0 m pc ls (.int i :: .ref (ad 29) :: rest)) := by
  have hin := okI_in hi
  have hlt : i.toNatClampNeg < 5 := Nat.not_le.mp fun q => hin (Or.inr q)
  have ha : (WL ad cA σ)[29]? = some (ad 29, .inl (cA 4, 5, .inr (.inr (.inr (.inr (fun i => if i < 5 then some (ad (30 + i)) else none)))))) := by rw [WL_at (by decide), e_29]
  refine W.aald (v := .ref (ad (30 + i.toNatClampNeg))) (ty := .array .long) hx hb (hS.1 29 _ ha) ((hK.2 4 _ rfl).1 5 (fun j => va_rf (if j < 5 then some (ad (30 + j)) else none))) rfl (fun q => by cases q) (by show ¬ (i < 0 ∨ (arrV _ _ _).slots.size ≤ _); rw [arrV_size]; exact hin) (by show (arrV _ _ _).slots[_]? = _; rw [arrV_read _ _ hlt]; simp [hlt, va_rf]) rfl rfl hdg kk
/-- an image -/
theorem r_image (hx : p.tables.exec = Jvm.exec) (hb : c.code = cc) (hK : va_K (dC, dI) vwCl (tyL cA) s) (hS : ST dC dI ad cA s σ H locs) {i : Int32} (hi : okI i 2 = true) (hdg : decode cc pc = .ok (.aaload, 1))
    (kk : W p l e R s m args below meth c H locs cells slots Q (F0 m (pc + 1) ls (.ref (ad (3 + 4 * (3 + i.toNatClampNeg))) :: rest))) : W p l e R s m args below meth c H locs cells slots Q (F0 m pc ls (.int i :: .ref (ad 43) :: rest)) := by
  have ha : (WL ad cA σ)[43]? = some (ad 43, .inl (cA 3, 2, .inr (.inr (.inr (.inr (fun i => some (ad (15 + 4 * i)))))))) := by rw [WL_at (by decide), e_43]
  refine va_aldq hx hb hK hS.1 43 3 ha rfl (okI_in hi) hdg ?_
  show W p l e R s m args below meth c H locs cells slots Q (F0 m (pc + 1) ls (.ref (ad (15 + 4 * i.toNatClampNeg)) :: rest))
  rw [show 15 + 4 * i.toNatClampNeg = 3 + 4 * (3 + i.toNatClampNeg) by omega]
  exact kk
/-- arraycopy of ints -/
theorem r_copy (hx : p.tables.exec = Jvm.exec) (hb : c.code = cc) (hml : c.maxLocals = ls.size) {own : String} {index : Nat} (hown : s.vm.findClass own = some m.cls) (hlink : (Cond.methodLink own index arraycopyName).before args s = true) (hnat : (Cond.native arraycopyName).before args s = true) (hstat : (Cond.static arraycopyName).before args s = true) (hini : (Cond.initialized "java/lang/System").before args s = true)
    (hK : va_K (dC, dI) vwCl (tyL cA) s) (hS : ST dC dI ad cA s σ H locs) {q0 q1 : Nat} (hq0 : lenA q0 ≠ 0) (hq1 : lenA q1 ≠ 0) {sp dp n : Int32} (hc : okC sp dp n (lenA q0) (lenA q1) = true) (hframes : 1 ≤ R.frames) (hlocals : (rest.map fun v => v.category).sum + (nativeFrameWords "java/lang/System" "arraycopy" 5 + 11) ≤ R.locals) (hdg : decode cc pc = .ok (.invokestatic index, 3))
    (kk : ∀ (H1 : Heap) (locs1 : List Loc), ST dC dI ad cA s (pAr σ q1 (va_cpy (gA σ q0) (gA σ q1) sp.toNatClampNeg dp.toNatClampNeg n.toNatClampNeg)) H1 locs1 → W p l e R s m args below meth c H1 locs1 cells slots Q (F0 m (pc + 3) ls rest)) : W p l e R s m args below meth c H locs cells slots Q (F0 m pc ls (.int n :: .int dp :: .ref (ad q1) :: .int sp :: .ref (ad q0) :: rest)) := by
  obtain ⟨h1, h2, h3, h4, h5⟩ := of_decide_eq_true hc
  have nn : ∀ z : Int32, 0 ≤ z.toInt → ¬ z < 0 := fun z hz q => by
    have := Int32.lt_iff_toInt_lt.mp q
    simp at this
    omega
  refine va_copyi hx hb hml hown hlink hnat hstat hini hK hS.1 hS.2.1 hS.2.2 q0 q1 0 0 (ty := .int) (by rw [WL_at (lenA_lt hq0), eA_at hq0]) (by rw [WL_at (lenA_lt hq1), eA_at hq1]) rfl rfl rfl (nn _ h1) (nn _ h2) (nn _ h3) h4 h5 (fun i _ => rfl) hframes hlocals hdg (fun H1 locs1 hP hD hS1 => ?_)
  rw [WL_set (σ' := pAr σ q1 (va_cpy (gA σ q0) (gA σ q1) sp.toNatClampNeg dp.toNatClampNeg n.toNatClampNeg)) (fun d _ h => eA d h) (by rw [eA_at hq1]; simp [gA, pAr])] at hP hD
  exact kk H1 locs1 ⟨hP, hD, hS1⟩
/-- calls -/
theorem r_pre (hK : va_K (dC, dI) vwCl (tyL cA) s) (hN : va_Nw NWd s) (hS : ST dC dI ad cA s σ H locs) (av : List Value) : ∀ U : State, U.heap = H → s.WarmedH U.vm → PreK dC dI ad cA H.size av σ av.toArray U := fun U hU hW =>
  ⟨rfl, by rw [hU], ⟨by rw [hU]; exact hS.1, va_K.moved hW.alike hK, hS.2.1.weaken (fun _ _ _ _ => trivial)⟩, va_Nw.warmM hW hN⟩
theorem r_after {H1 : Heap} {locs1 : List Loc} {t : State} {σ' : Sg} (hS : ST dC dI ad cA s σ H locs) (ht : t.heap = H1) (hB : WB dC dI ad cA (AS ad H.size) σ' t) (hS1 : va_S (AS ad s.heap.size) s.heap H1 locs1) : ST dC dI ad cA s σ' H1 locs1 :=
  ⟨by rw [← ht]; exact hB.1, hB.2.2.weaken (fun _ _ _ h => AS_mono hS.2.2.1 h), hS1⟩
variable {y : MethodName} {bytes : ByteArray} {maxL nL n index fr lo : Nat} {ret : Option FieldType} {ws : List Cond} {Ts : List Cond} {own C host : String} {b : Nat} {As st0 : List Value}
theorem r_Vi (S : CallFix p m c cc nL s args Ts own) {z : Int32 × Sg} (hM : Ki l dC dI ad cA y ws fr lo (.ref (ad b) :: As) σ z) (cw : CallW R s args own C index y bytes maxL ret ws (RM fr lo) 0 0 n) (hK : va_K (dC, dI) vwCl (tyL cA) s) (hN : va_Nw NWd s) (hS : ST dC dI ad cA s σ H locs) {ci : Nat} {fs : List Value} {T : u_T} {N : Nat} (hb56 : b < 56) (he : EE ad cA σ b = .inr (ci, fs)) (hc : vwCl[ci]? = some (C, T, N)) (hn : As.length = n) (hsize : ls.size = nL) (hst : st0 = As.reverse ++ .ref (ad b) :: rest) (hW : (rest.map fun v => v.category).sum ≤ 8) (hdg : decode cc pc = .ok (.invokevirtual index, 3)) (hf : cells ≤ R.cells ∧ slots ≤ R.slots)
    (kk : ∀ (H1 : Heap) (locs1 : List Loc), ST dC dI ad cA s z.2 H1 locs1 → W p l e R s m args below meth c H1 locs1 cells slots Q (F0 m (pc + 3) ls (.int z.1 :: rest))) : W p l e R s m args below meth c H locs cells slots Q (F0 m pc ls st0) := by
  subst hst
  refine va_calli (va_runV (As := As) (rest := rest) S (hM H.size) cw ⟨fb, va_recv hK hS.1 hc (q0 := b) (by rw [WL_at hb56, he]), r_pre hK hN hS _⟩ rfl hn hsize rfl (lv_room hW) hdg hf) hS.2.2 (fun q _ h => AS_mono hS.2.2.1 h) (fun q h => AS_mono hS.2.2.1 h) (fun r u t H1 locs1 ht hvm hw hB hz1 hk1 hS1 => ?_)
  obtain ⟨rfl, rfl⟩ := hw
  exact kk H1 locs1 (r_after hS ht hB hS1)
theorem r_Vl (S : CallFix p m c cc nL s args Ts own) {z : Int64 × Sg} (hM : Kl l dC dI ad cA y ws fr lo (.ref (ad b) :: As) σ z) (cw : CallW R s args own C index y bytes maxL ret ws (RM fr lo) 0 0 n) (hK : va_K (dC, dI) vwCl (tyL cA) s) (hN : va_Nw NWd s) (hS : ST dC dI ad cA s σ H locs) {ci : Nat} {fs : List Value} {T : u_T} {N : Nat} (hb56 : b < 56) (he : EE ad cA σ b = .inr (ci, fs)) (hc : vwCl[ci]? = some (C, T, N)) (hn : As.length = n) (hsize : ls.size = nL) (hst : st0 = As.reverse ++ .ref (ad b) :: rest) (hW : (rest.map fun v => v.category).sum ≤ 8) (hdg : decode cc pc = .ok (.invokevirtual index, 3)) (hf : cells ≤ R.cells ∧ slots ≤ R.slots)
    (kk : ∀ (H1 : Heap) (locs1 : List Loc), ST dC dI ad cA s z.2 H1 locs1 → W p l e R s m args below meth c H1 locs1 cells slots Q (F0 m (pc + 3) ls (.long z.1 :: rest))) : W p l e R s m args below meth c H locs cells slots Q (F0 m pc ls st0) := by
  subst hst
  refine va_calll (va_runV (As := As) (rest := rest) S (hM H.size) cw ⟨fb, va_recv hK hS.1 hc (q0 := b) (by rw [WL_at hb56, he]), r_pre hK hN hS _⟩ rfl hn hsize rfl (lv_room hW) hdg hf) hS.2.2 (fun q _ h => AS_mono hS.2.2.1 h) (fun q h => AS_mono hS.2.2.1 h) (fun r u t H1 locs1 ht hvm hw hB hz1 hk1 hS1 => ?_)
  obtain ⟨rfl, rfl⟩ := hw
  exact kk H1 locs1 (r_after hS ht hB hS1)
theorem r_Vv (S : CallFix p m c cc nL s args Ts own) {z : Sg} (hM : Kv l dC dI ad cA y ws fr lo (.ref (ad b) :: As) σ z) (cw : CallW R s args own C index y bytes maxL ret ws (RM fr lo) 0 0 n) (hK : va_K (dC, dI) vwCl (tyL cA) s) (hN : va_Nw NWd s) (hS : ST dC dI ad cA s σ H locs) {ci : Nat} {fs : List Value} {T : u_T} {N : Nat} (hb56 : b < 56) (he : EE ad cA σ b = .inr (ci, fs)) (hc : vwCl[ci]? = some (C, T, N)) (hn : As.length = n) (hsize : ls.size = nL) (hst : st0 = As.reverse ++ .ref (ad b) :: rest) (hW : (rest.map fun v => v.category).sum ≤ 8) (hdg : decode cc pc = .ok (.invokevirtual index, 3)) (hf : cells ≤ R.cells ∧ slots ≤ R.slots)
    (kk : ∀ (H1 : Heap) (locs1 : List Loc), ST dC dI ad cA s z H1 locs1 → W p l e R s m args below meth c H1 locs1 cells slots Q (F0 m (pc + 3) ls rest)) : W p l e R s m args below meth c H locs cells slots Q (F0 m pc ls st0) := by
  subst hst
  refine va_callv (va_runV (As := As) (rest := rest) S (hM H.size) cw ⟨fb, va_recv hK hS.1 hc (q0 := b) (by rw [WL_at hb56, he]), r_pre hK hN hS _⟩ rfl hn hsize rfl (lv_room hW) hdg hf) hS.2.2 (fun q _ h => AS_mono hS.2.2.1 h) (fun q h => AS_mono hS.2.2.1 h) (fun u t H1 locs1 ht hvm hw hB hz1 hk1 hS1 => ?_)
  subst hw
  exact kk H1 locs1 (r_after hS ht hB hS1)
theorem r_Si (S : CallFix p m c cc nL s args Ts own) {z : Int32 × Sg} (hM : Ki l dC dI ad cA y ws fr lo As σ z) (cw : CallB R s args own index y bytes maxL ret ws (RM fr lo) 0 0 n ∧ (Cond.static y).before args s = true) (hK : va_K (dC, dI) vwCl (tyL cA) s) (hN : va_Nw NWd s) (hS : ST dC dI ad cA s σ H locs) (hn : As.length = n) (hsize : ls.size = nL) (hst : st0 = As.reverse ++ rest) (hW : (rest.map fun v => v.category).sum ≤ 8) (hdg : decode cc pc = .ok (.invokestatic index, 3)) (hf : cells ≤ R.cells ∧ slots ≤ R.slots)
    (kk : ∀ (H1 : Heap) (locs1 : List Loc), ST dC dI ad cA s z.2 H1 locs1 → W p l e R s m args below meth c H1 locs1 cells slots Q (F0 m (pc + 3) ls (.int z.1 :: rest))) : W p l e R s m args below meth c H locs cells slots Q (F0 m pc ls st0) := by
  subst hst
  refine va_calli (va_runS (As := As) (rest := rest) S (hM H.size) cw ⟨fb, r_pre hK hN hS _⟩ rfl hn hsize rfl (lv_room hW) hdg hf) hS.2.2 (fun q _ h => AS_mono hS.2.2.1 h) (fun q h => AS_mono hS.2.2.1 h) (fun r u t H1 locs1 ht hvm hw hB hz1 hk1 hS1 => ?_)
  obtain ⟨rfl, rfl⟩ := hw
  exact kk H1 locs1 (r_after hS ht hB hS1)
theorem r_Sl (S : CallFix p m c cc nL s args Ts own) {z : Int64 × Sg} (hM : Kl l dC dI ad cA y ws fr lo As σ z) (cw : CallB R s args own index y bytes maxL ret ws (RM fr lo) 0 0 n ∧ (Cond.static y).before args s = true) (hK : va_K (dC, dI) vwCl (tyL cA) s) (hN : va_Nw NWd s) (hS : ST dC dI ad cA s σ H locs) (hn : As.length = n) (hsize : ls.size = nL) (hst : st0 = As.reverse ++ rest) (hW : (rest.map fun v => v.category).sum ≤ 8) (hdg : decode cc pc = .ok (.invokestatic index, 3)) (hf : cells ≤ R.cells ∧ slots ≤ R.slots)
    (kk : ∀ (H1 : Heap) (locs1 : List Loc), ST dC dI ad cA s z.2 H1 locs1 → W p l e R s m args below meth c H1 locs1 cells slots Q (F0 m (pc + 3) ls (.long z.1 :: rest))) : W p l e R s m args below meth c H locs cells slots Q (F0 m pc ls st0) := by
  subst hst
  refine va_calll (va_runS (As := As) (rest := rest) S (hM H.size) cw ⟨fb, r_pre hK hN hS _⟩ rfl hn hsize rfl (lv_room hW) hdg hf) hS.2.2 (fun q _ h => AS_mono hS.2.2.1 h) (fun q h => AS_mono hS.2.2.1 h) (fun r u t H1 locs1 ht hvm hw hB hz1 hk1 hS1 => ?_)
  obtain ⟨rfl, rfl⟩ := hw
  exact kk H1 locs1 (r_after hS ht hB hS1)
theorem r_Sv (S : CallFix p m c cc nL s args Ts own) {z : Sg} (hM : Kv l dC dI ad cA y ws fr lo As σ z) (cw : CallB R s args own index y bytes maxL ret ws (RM fr lo) 0 0 n ∧ (Cond.static y).before args s = true) (hK : va_K (dC, dI) vwCl (tyL cA) s) (hN : va_Nw NWd s) (hS : ST dC dI ad cA s σ H locs) (hn : As.length = n) (hsize : ls.size = nL) (hst : st0 = As.reverse ++ rest) (hW : (rest.map fun v => v.category).sum ≤ 8) (hdg : decode cc pc = .ok (.invokestatic index, 3)) (hf : cells ≤ R.cells ∧ slots ≤ R.slots)
    (kk : ∀ (H1 : Heap) (locs1 : List Loc), ST dC dI ad cA s z H1 locs1 → W p l e R s m args below meth c H1 locs1 cells slots Q (F0 m (pc + 3) ls rest)) : W p l e R s m args below meth c H locs cells slots Q (F0 m pc ls st0) := by
  subst hst
  refine va_callv (va_runS (As := As) (rest := rest) S (hM H.size) cw ⟨fb, r_pre hK hN hS _⟩ rfl hn hsize rfl (lv_room hW) hdg hf) hS.2.2 (fun q _ h => AS_mono hS.2.2.1 h) (fun q h => AS_mono hS.2.2.1 h) (fun u t H1 locs1 ht hvm hw hB hz1 hk1 hS1 => ?_)
  subst hw
  exact kk H1 locs1 (r_after hS ht hB hS1)
theorem r_SNl (S : CallFix p m c cc nL s args Ts own) {z : Int64 × Sg} (hM : Kl l dC dI ad cA y ws fr lo As σ z) (cw : va_CN R s args own index y host bytes maxL ret ws (RM fr lo) 0 0 n ∧ (Cond.static y).before args s = true ∧ True) (hK : va_K (dC, dI) vwCl (tyL cA) s) (hN : va_Nw NWd s) (hS : ST dC dI ad cA s σ H locs) (hn : As.length = n) (hsize : ls.size = nL) (hst : st0 = As.reverse ++ rest) (hW : (rest.map fun v => v.category).sum ≤ 8) (hdg : decode cc pc = .ok (.invokestatic index, 3)) (hf : cells ≤ R.cells ∧ slots ≤ R.slots)
    (kk : ∀ (H1 : Heap) (locs1 : List Loc), ST dC dI ad cA s z.2 H1 locs1 → W p l e R s m args below meth c H1 locs1 cells slots Q (F0 m (pc + 3) ls (.long z.1 :: rest))) : W p l e R s m args below meth c H locs cells slots Q (F0 m pc ls st0) := by
  subst hst
  refine va_calll (va_runSN (As := As) (rest := rest) S (hM H.size) cw ⟨fb, r_pre hK hN hS _⟩ rfl hn hsize rfl (lv_room hW) hdg hf) hS.2.2 (fun q _ h => AS_mono hS.2.2.1 h) (fun q h => AS_mono hS.2.2.1 h) (fun r u t H1 locs1 ht hvm hw hB hz1 hk1 hS1 => ?_)
  obtain ⟨rfl, rfl⟩ := hw
  exact kk H1 locs1 (r_after hS ht hB hS1)
/-- ends -/
theorem r_world (hK : va_K (dC, dI) vwCl (tyL cA) s) (hS : ST dC dI ad cA s σ H locs) {t : State} (ht : t.heap = H) (hW : s.WarmedH t.vm) : WB dC dI ad cA (AS ad s.heap.size) σ t := ⟨by rw [ht]; exact hS.1, va_K.moved hW.alike hK, hS.2.1⟩
theorem r_iret (hx : p.tables.exec = Jvm.exec) (hb : c.code = cc) (hr : meth.sig.returnType = some .int) (hK : va_K (dC, dI) vwCl (tyL cA) s) (hS : ST dC dI ad cA s σ H locs) {v : Int32} {z : Int32 × Sg} (hz : some (v, σ) = some z) (hlocks : meth.locks = false) (hdg : decode cc pc = .ok (.ireturn, 1)) : W p l e R s m args below meth c H locs cells slots (MQ below (va_Qi (fun r u => r = z.1 ∧ u = z.2) (WB dC dI ad cA (AS ad s.heap.size)) (AS ad s.heap.size)) args s cells slots (AS ad s.heap.size)) (F0 m pc ls [.int v]) := by
  cases hz
  exact W.iret hx hb hr (fun t ht hW => ⟨⟨v, σ, rfl, ⟨rfl, rfl⟩, r_world hK hS ht hW⟩, hS.2.2.F ht⟩) hS.2.2.2.2 hdg hlocks
theorem r_zret (hx : p.tables.exec = Jvm.exec) (hb : c.code = cc) (hr : meth.sig.returnType = some .boolean) (hK : va_K (dC, dI) vwCl (tyL cA) s) (hS : ST dC dI ad cA s σ H locs) {v : Int32} (hn : narrow .boolean (.int v) = .int v) {z : Int32 × Sg} (hz : some (v, σ) = some z) (hlocks : meth.locks = false) (hdg : decode cc pc = .ok (.ireturn, 1)) : W p l e R s m args below meth c H locs cells slots (MQ below (va_Qi (fun r u => r = z.1 ∧ u = z.2) (WB dC dI ad cA (AS ad s.heap.size)) (AS ad s.heap.size)) args s cells slots (AS ad s.heap.size)) (F0 m pc ls [.int v]) := by
  cases hz
  exact W.zret hx hb hr hn (fun t ht hW => ⟨⟨v, σ, rfl, ⟨rfl, rfl⟩, r_world hK hS ht hW⟩, hS.2.2.F ht⟩) hS.2.2.2.2 hdg hlocks
theorem r_lret (hx : p.tables.exec = Jvm.exec) (hb : c.code = cc) (hr : meth.sig.returnType = some .long) (hK : va_K (dC, dI) vwCl (tyL cA) s) (hS : ST dC dI ad cA s σ H locs) {v : Int64} {z : Int64 × Sg} (hz : some (v, σ) = some z) (hlocks : meth.locks = false) (hdg : decode cc pc = .ok (.lreturn, 1)) : W p l e R s m args below meth c H locs cells slots (MQ below (va_Ql (fun r u => r = z.1 ∧ u = z.2) (WB dC dI ad cA (AS ad s.heap.size)) (AS ad s.heap.size)) args s cells slots (AS ad s.heap.size)) (F0 m pc ls [.long v]) := by
  cases hz
  exact W.lret hx hb hr (fun t ht hW => ⟨⟨v, σ, rfl, ⟨rfl, rfl⟩, r_world hK hS ht hW⟩, hS.2.2.F ht⟩) hS.2.2.2.2 hdg hlocks
theorem r_vret (hx : p.tables.exec = Jvm.exec) (hb : c.code = cc) (hr : meth.sig.returnType = none) (hK : va_K (dC, dI) vwCl (tyL cA) s) (hS : ST dC dI ad cA s σ H locs) {z : Sg} (hz : some σ = some z) (hlocks : meth.locks = false) (hdg : decode cc pc = .ok (.return_, 1)) : W p l e R s m args below meth c H locs cells slots (MQ below (va_Qv (fun u => u = z) (WB dC dI ad cA (AS ad s.heap.size)) (AS ad s.heap.size)) args s cells slots (AS ad s.heap.size)) (F0 m pc ls []) := by
  cases hz
  exact W.vret hx hb hr (fun t ht hW => ⟨⟨σ, rfl, rfl, r_world hK hS ht hW⟩, hS.2.2.F ht⟩) hS.2.2.2.2 hdg hlocks
end RW
theorem WB_ST {dC : Nat → ClassId} {dI : Nat → Nat → Nat} {ad : Nat → Nat} {cA : Nat → ClassId} {s : State} {σ : Sg} {A : Nat → Prop} (h : WB dC dI ad cA A σ s) : ST dC dI ad cA s σ s.heap [] := ⟨h.1, ⟨h.2.2.1, fun k q hq => WL_AS hq⟩, va_S.rf⟩
section RW2
variable {p : Program} {l : Launch} {e : Env} {R : Room} {s : State} {m : MethodId} {args : Array Value} {below : List Frame} {meth : Method} {c : Code} {H : Heap} {locs : List Loc} {cells slots : Nat} {Q : State → Prop}
variable {cc : ByteArray} {pc : Nat} {ls : Array Slot} {rest : List Value} {dC : Nat → ClassId} {dI : Nat → Nat → Nat} {ad : Nat → Nat} {cA : Nat → ClassId} {σ : Sg}
variable {y : MethodName} {bytes : ByteArray} {maxL nL n index fr lo : Nat} {ret : Option FieldType} {ws ws' : List Cond} {Ts : List Cond} {own C host : String} {b : Nat} {As st0 : List Value}
theorem r_ViP (S : CallFix p m c cc nL s args Ts own) {v : Int32} (hM : Ki l dC dI ad cA y ws fr lo (.ref (ad b) :: As) σ (v, σ)) (cw : CallW R s args own C index y bytes maxL ret ws (RM fr lo) 0 0 n) (hK : va_K (dC, dI) vwCl (tyL cA) s) (hN : va_Nw NWd s) (hS : ST dC dI ad cA s σ H locs) {ci : Nat} {fs : List Value} {T : u_T} {N : Nat} (hb56 : b < 56) (he : EE ad cA σ b = .inr (ci, fs)) (hc : vwCl[ci]? = some (C, T, N)) (hn : As.length = n) (hsize : ls.size = nL) (hst : st0 = As.reverse ++ .ref (ad b) :: rest) (hW : (rest.map fun v => v.category).sum ≤ 8) (hdg : decode cc pc = .ok (.invokevirtual index, 3)) (hf : cells ≤ R.cells ∧ slots ≤ R.slots)
    (kk : ∀ (H1 : Heap) (locs1 : List Loc), ST dC dI ad cA s σ H1 locs1 → W p l e R s m args below meth c H1 locs1 cells slots Q (F0 m (pc + 3) ls (.int v :: rest))) : W p l e R s m args below meth c H locs cells slots Q (F0 m pc ls st0) :=
  r_Vi S hM cw hK hN hS hb56 he hc hn hsize hst hW hdg hf kk
theorem r_VlP (S : CallFix p m c cc nL s args Ts own) {v : Int64} (hM : Kl l dC dI ad cA y ws fr lo (.ref (ad b) :: As) σ (v, σ)) (cw : CallW R s args own C index y bytes maxL ret ws (RM fr lo) 0 0 n) (hK : va_K (dC, dI) vwCl (tyL cA) s) (hN : va_Nw NWd s) (hS : ST dC dI ad cA s σ H locs) {ci : Nat} {fs : List Value} {T : u_T} {N : Nat} (hb56 : b < 56) (he : EE ad cA σ b = .inr (ci, fs)) (hc : vwCl[ci]? = some (C, T, N)) (hn : As.length = n) (hsize : ls.size = nL) (hst : st0 = As.reverse ++ .ref (ad b) :: rest) (hW : (rest.map fun v => v.category).sum ≤ 8) (hdg : decode cc pc = .ok (.invokevirtual index, 3)) (hf : cells ≤ R.cells ∧ slots ≤ R.slots)
    (kk : ∀ (H1 : Heap) (locs1 : List Loc), ST dC dI ad cA s σ H1 locs1 → W p l e R s m args below meth c H1 locs1 cells slots Q (F0 m (pc + 3) ls (.long v :: rest))) : W p l e R s m args below meth c H locs cells slots Q (F0 m pc ls st0) :=
  r_Vl S hM cw hK hN hS hb56 he hc hn hsize hst hW hdg hf kk
theorem r_SiP (S : CallFix p m c cc nL s args Ts own) {v : Int32} (hM : Ki l dC dI ad cA y ws fr lo As σ (v, σ)) (cw : CallB R s args own index y bytes maxL ret ws (RM fr lo) 0 0 n ∧ (Cond.static y).before args s = true) (hK : va_K (dC, dI) vwCl (tyL cA) s) (hN : va_Nw NWd s) (hS : ST dC dI ad cA s σ H locs) (hn : As.length = n) (hsize : ls.size = nL) (hst : st0 = As.reverse ++ rest) (hW : (rest.map fun v => v.category).sum ≤ 8) (hdg : decode cc pc = .ok (.invokestatic index, 3)) (hf : cells ≤ R.cells ∧ slots ≤ R.slots)
    (kk : ∀ (H1 : Heap) (locs1 : List Loc), ST dC dI ad cA s σ H1 locs1 → W p l e R s m args below meth c H1 locs1 cells slots Q (F0 m (pc + 3) ls (.int v :: rest))) : W p l e R s m args below meth c H locs cells slots Q (F0 m pc ls st0) :=
  r_Si S hM cw hK hN hS hn hsize hst hW hdg hf kk
theorem r_SlP (S : CallFix p m c cc nL s args Ts own) {v : Int64} (hM : Kl l dC dI ad cA y ws fr lo As σ (v, σ)) (cw : CallB R s args own index y bytes maxL ret ws (RM fr lo) 0 0 n ∧ (Cond.static y).before args s = true) (hK : va_K (dC, dI) vwCl (tyL cA) s) (hN : va_Nw NWd s) (hS : ST dC dI ad cA s σ H locs) (hn : As.length = n) (hsize : ls.size = nL) (hst : st0 = As.reverse ++ rest) (hW : (rest.map fun v => v.category).sum ≤ 8) (hdg : decode cc pc = .ok (.invokestatic index, 3)) (hf : cells ≤ R.cells ∧ slots ≤ R.slots)
    (kk : ∀ (H1 : Heap) (locs1 : List Loc), ST dC dI ad cA s σ H1 locs1 → W p l e R s m args below meth c H1 locs1 cells slots Q (F0 m (pc + 3) ls (.long v :: rest))) : W p l e R s m args below meth c H locs cells slots Q (F0 m pc ls st0) :=
  r_Sl S hM cw hK hN hS hn hsize hst hW hdg hf kk
theorem r_SNlP (S : CallFix p m c cc nL s args Ts own) {v : Int64} (hM : Kl l dC dI ad cA y ws fr lo As σ (v, σ)) (cw : va_CN R s args own index y host bytes maxL ret ws (RM fr lo) 0 0 n ∧ (Cond.static y).before args s = true ∧ True) (hK : va_K (dC, dI) vwCl (tyL cA) s) (hN : va_Nw NWd s) (hS : ST dC dI ad cA s σ H locs) (hn : As.length = n) (hsize : ls.size = nL) (hst : st0 = As.reverse ++ rest) (hW : (rest.map fun v => v.category).sum ≤ 8) (hdg : decode cc pc = .ok (.invokestatic index, 3)) (hf : cells ≤ R.cells ∧ slots ≤ R.slots)
    (kk : ∀ (H1 : Heap) (locs1 : List Loc), ST dC dI ad cA s σ H1 locs1 → W p l e R s m args below meth c H1 locs1 cells slots Q (F0 m (pc + 3) ls (.long v :: rest))) : W p l e R s m args below meth c H locs cells slots Q (F0 m pc ls st0) :=
  r_SNl S hM cw hK hN hS hn hsize hst hW hdg hf kk
theorem r_alenA (hx : p.tables.exec = Jvm.exec) (hb : c.code = cc) (hK : va_K (dC, dI) vwCl (tyL cA) s) (hS : ST dC dI ad cA s σ H locs) {q : Nat} (hq : lenA q ≠ 0) {v : Int32} (hv : Int32.ofNat (lenA q) = v) (hdg : decode cc pc = .ok (.arraylength, 1))
    (kk : W p l e R s m args below meth c H locs cells slots Q (F0 m (pc + 1) ls (.int v :: rest))) : W p l e R s m args below meth c H locs cells slots Q (F0 m pc ls (.ref (ad q) :: rest)) :=
  va_alen hx hb hK hS.1 q 0 (by rw [WL_at (lenA_lt hq), eA_at hq]) (ty := .int) rfl hv hdg kk
theorem r_alenJ (hx : p.tables.exec = Jvm.exec) (hb : c.code = cc) (hK : va_K (dC, dI) vwCl (tyL cA) s) (hS : ST dC dI ad cA s σ H locs) {q : Nat} (hq : lenJ q ≠ 0) {v : Int32} (hv : Int32.ofNat (lenJ q) = v) (hdg : decode cc pc = .ok (.arraylength, 1))
    (kk : W p l e R s m args below meth c H locs cells slots Q (F0 m (pc + 1) ls (.int v :: rest))) : W p l e R s m args below meth c H locs cells slots Q (F0 m pc ls (.ref (ad q) :: rest)) :=
  va_alen hx hb hK hS.1 q 1 (by rw [WL_at (lenJ_lt hq), eJ_at hq]) (ty := .long) rfl hv hdg kk
/-- the walk of a method gives its contract -/
def Cx (p : Program) (s : State) (m : MethodId) (args : Array Value) (meth : Method) (c : Code) (C : String) (ws : List Cond) (cc : ByteArray) (maxL : Nat) (ret : Option FieldType) (dC : Nat → ClassId) (dI : Nat → Nat → Nat) (cA : Nat → ClassId) : Prop :=
  p.tables.exec = Jvm.exec ∧ c.code = cc ∧ meth.sig.returnType = ret ∧ c.maxLocals = maxL ∧ s.vm.findClass C = some m.cls ∧ (∀ w ∈ ws, w.before args s = true) ∧ meth.locks = false ∧ va_K (dC, dI) vwCl (tyL cA) s ∧ va_Nw NWd s
theorem mk_i {z : Int32 × Sg} {av : List Value} (hy : plainName y.cls = true) (hw : ws = Cond.code y cc maxL ret :: ws') (hlen : (lg_sl av).length ≤ maxL)
    (body : ∀ (p : Program) (e : Env) (s : State) (m : MethodId) (args : Array Value) (below : List Frame) (meth : Method) (c : Code) (Q : State → Prop) (H : Heap) (locs : List Loc) (ls : Array Slot), Cx p s m args meth c y.cls ws cc maxL ret dC dI cA → MQ below (va_Qi (fun r u => r = z.1 ∧ u = z.2) (WB dC dI ad cA (AS ad s.heap.size)) (AS ad s.heap.size)) args s 0 0 (AS ad s.heap.size) = Q → ST dC dI ad cA s σ H locs → lv_has ls maxL (lv_args 0 av) → W p l e (RM fr lo) s m args below meth c H locs 0 0 Q (F0 m 0 ls [])) : Ki l dC dI ad cA y ws fr lo av σ z := by
  intro sz
  refine Met.ofW (cc := cc) (maxL := maxL) (ret := ret) hy hw ?_
  intro p e s m args below meth c s₁ B hml hv
  obtain ⟨ha, hsz, hWB, hN⟩ := hv
  have hts := atoms_spec (ws := ws) B.pre
  subst hsz
  have hl := lv_entry av (n := maxL) hlen
  rw [show entryFrame m args maxL = entryFrame m av.toArray maxL by rw [ha], lg_entry_eq]
  exact body p e s m args below meth c _ s.heap [] _ ⟨B.exec, B.bytes, B.returns, hml, findClass_of_methodNamed B.named, hts, B.notSynchronized, hWB.2.1, hN⟩ rfl (WB_ST hWB) hl
theorem mk_l {z : Int64 × Sg} {av : List Value} (hy : plainName y.cls = true) (hw : ws = Cond.code y cc maxL ret :: ws') (hlen : (lg_sl av).length ≤ maxL)
    (body : ∀ (p : Program) (e : Env) (s : State) (m : MethodId) (args : Array Value) (below : List Frame) (meth : Method) (c : Code) (Q : State → Prop) (H : Heap) (locs : List Loc) (ls : Array Slot), Cx p s m args meth c y.cls ws cc maxL ret dC dI cA → MQ below (va_Ql (fun r u => r = z.1 ∧ u = z.2) (WB dC dI ad cA (AS ad s.heap.size)) (AS ad s.heap.size)) args s 0 0 (AS ad s.heap.size) = Q → ST dC dI ad cA s σ H locs → lv_has ls maxL (lv_args 0 av) → W p l e (RM fr lo) s m args below meth c H locs 0 0 Q (F0 m 0 ls [])) : Kl l dC dI ad cA y ws fr lo av σ z := by
  intro sz
  refine Met.ofW (cc := cc) (maxL := maxL) (ret := ret) hy hw ?_
  intro p e s m args below meth c s₁ B hml hv
  obtain ⟨ha, hsz, hWB, hN⟩ := hv
  have hts := atoms_spec (ws := ws) B.pre
  subst hsz
  have hl := lv_entry av (n := maxL) hlen
  rw [show entryFrame m args maxL = entryFrame m av.toArray maxL by rw [ha], lg_entry_eq]
  exact body p e s m args below meth c _ s.heap [] _ ⟨B.exec, B.bytes, B.returns, hml, findClass_of_methodNamed B.named, hts, B.notSynchronized, hWB.2.1, hN⟩ rfl (WB_ST hWB) hl
theorem mk_v {z : Sg} {av : List Value} (hy : plainName y.cls = true) (hw : ws = Cond.code y cc maxL ret :: ws') (hlen : (lg_sl av).length ≤ maxL)
    (body : ∀ (p : Program) (e : Env) (s : State) (m : MethodId) (args : Array Value) (below : List Frame) (meth : Method) (c : Code) (Q : State → Prop) (H : Heap) (locs : List Loc) (ls : Array Slot), Cx p s m args meth c y.cls ws cc maxL ret dC dI cA → MQ below (va_Qv (fun u => u = z) (WB dC dI ad cA (AS ad s.heap.size)) (AS ad s.heap.size)) args s 0 0 (AS ad s.heap.size) = Q → ST dC dI ad cA s σ H locs → lv_has ls maxL (lv_args 0 av) → W p l e (RM fr lo) s m args below meth c H locs 0 0 Q (F0 m 0 ls [])) : Kv l dC dI ad cA y ws fr lo av σ z := by
  intro sz
  refine Met.ofW (cc := cc) (maxL := maxL) (ret := ret) hy hw ?_
  intro p e s m args below meth c s₁ B hml hv
  obtain ⟨ha, hsz, hWB, hN⟩ := hv
  have hts := atoms_spec (ws := ws) B.pre
  subst hsz
  have hl := lv_entry av (n := maxL) hlen
  rw [show entryFrame m args maxL = entryFrame m av.toArray maxL by rw [ha], lg_entry_eq]
  exact body p e s m args below meth c _ s.heap [] _ ⟨B.exec, B.bytes, B.returns, hml, findClass_of_methodNamed B.named, hts, B.notSynchronized, hWB.2.1, hN⟩ rfl (WB_ST hWB) hl
end RW2
theorem pz {α : Type} {v z : α} {σ : Sg} (h : some v = some z) : some (v, σ) = some (z, σ) := by cases h; rfl
theorem own_n {k : Nat} (hk : k < 5) : own (4 + 2 * k) = 3 + 4 * k := by
  match k, hk with
  | 0, _ => rfl
  | 1, _ => rfl
  | 2, _ => rfl
  | 3, _ => rfl
  | 4, _ => rfl
  | n + 5, h => exact absurd h (by omega)
theorem own_m {k : Nat} (hk : k < 5) : own (5 + 2 * k) = 3 + 4 * k := by
  match k, hk with
  | 0, _ => rfl
  | 1, _ => rfl
  | 2, _ => rfl
  | 3, _ => rfl
  | 4, _ => rfl
  | n + 5, h => exact absurd h (by omega)
theorem e_netn {ad : Nat → Nat} {cA : Nat → ClassId} {σ : Sg} {k : Nat} {x : Int32} (hk : k < 5) : EE ad cA (pI σ (4 + 2 * k) x) (3 + 4 * k) = .inr (1, [.int x, .int (gI σ (5 + 2 * k)), .ref (ad (4 + 4 * k)), .ref (ad (5 + 4 * k)), .ref (ad (6 + 4 * k))]) := by rw [e_net hk, gI_self, gI_far (by omega)]
theorem e_netm {ad : Nat → Nat} {cA : Nat → ClassId} {σ : Sg} {k : Nat} {x : Int32} (hk : k < 5) : EE ad cA (pI σ (5 + 2 * k) x) (3 + 4 * k) = .inr (1, [.int (gI σ (4 + 2 * k)), .int x, .ref (ad (4 + 4 * k)), .ref (ad (5 + 4 * k)), .ref (ad (6 + 4 * k))]) := by rw [e_net hk, gI_self, gI_far (by omega)]
theorem okI_nat {i : Int32} {n : Nat} (h : okI i n = true) : i.toNatClampNeg < n := Nat.not_le.mp fun q => (okI_in h) (Or.inr q)
theorem sw_out {x : Int32} {n : Nat} (h : ∀ j : Nat, j ≤ n → x ≠ nI j) : x.toInt < 0 ∨ (n : Int) < x.toInt := by
  by_cases h0 : x.toInt < 0
  · exact Or.inl h0
  · refine Or.inr (Int.not_le.mp fun hle => ?_)
    have hx : ¬ x < 0 := fun q => h0 (by simpa using Int32.lt_iff_toInt_lt.mp q)
    obtain ⟨j, hj, rfl⟩ := nI_of hx
    rw [nI_toInt hj] at hle
    exact h j (by omega) rfl
