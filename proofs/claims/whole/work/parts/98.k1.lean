/-! constructors, 2: contracts, rows -/
def Os (s : State) : Prop := va_AO "ChanceNets$Net" s ∧ va_AOA .long s
theorem Os.moved {u U : State} (hvm : u.vm.Alike U.vm) (h : Os u) : Os U := ⟨va_AO.moved hvm h.1, va_AOA.moved hvm h.2⟩
abbrev RK (fr lo ce sl : Nat) : Room := { frames := fr, cells := ce, slots := sl, locals := lo }
def KPre (dC : Nat → ClassId) (dI : Nat → Nat → Nat) (cA : Nat → ClassId) (sz h0 : Nat) (w0 : va_W) : Array Value → State → Prop := va_Pc [.ref h0] (fun U => U.heap.size = sz ∧ va_P (dC, dI) vwCl w0 U.heap ∧ va_K (dC, dI) vwCl (tyL cA) U ∧ va_D (fun _ => True) w0 ∧ Os U)
def KB (dC : Nat → ClassId) (dI : Nat → Nat → Nat) (cA : Nat → ClassId) (A : Nat → Prop) (w : va_W) (t : State) : Prop := va_P (dC, dI) vwCl w t.heap ∧ va_K (dC, dI) vwCl (tyL cA) t ∧ va_D A w
def KS (dC : Nat → ClassId) (dI : Nat → Nat → Nat) (A : Nat → Prop) (s : State) (w : va_W) (H : Heap) (locs : List Loc) : Prop := va_P (dC, dI) vwCl w H ∧ va_D A w ∧ va_S A s.heap H locs
def Kc (l : Launch) (dC : Nat → ClassId) (dI : Nat → Nat → Nat) (cA : Nat → ClassId) (y : MethodName) (ws : List Cond) (R : Room) (h0 : Nat) (x : va_E) {S : Type} (B : S → va_W) (mc ms : Nat) : Prop := ∀ sz : Nat, Met l y ws R (KPre dC dI cA sz h0 [(h0, x)]) (va_Qv (fun _ : S => True) (fun u t => KB dC dI cA (va_A [(h0, x)] sz) (B u) t) (va_A [(h0, x)] sz)) mc ms (va_A [(h0, x)] sz)
theorem fbK {dC : Nat → ClassId} {dI : Nat → Nat → Nat} {cA : Nat → ClassId} {sz h0 : Nat} {w0 : va_W} : FrameBlind (KPre dC dI cA sz h0 w0) := fun a U g mk q => by
  obtain ⟨q0, q1, qP, qK, qD, qO⟩ := q
  exact ⟨q0, q1, qP, va_K.moved (u := U) (U := U.calling g mk a) (Vm.Alike.refl U.vm) qK, qD, Os.moved (u := U) (U := U.calling g mk a) (Vm.Alike.refl U.vm) qO⟩
def Cc (p : Program) (s : State) (m : MethodId) (args : Array Value) (meth : Method) (c : Code) (C : String) (ws : List Cond) (cc : ByteArray) (maxL : Nat) (dC : Nat → ClassId) (dI : Nat → Nat → Nat) (cA : Nat → ClassId) : Prop :=
  p.tables.exec = Jvm.exec ∧ c.code = cc ∧ meth.sig.returnType = none ∧ c.maxLocals = maxL ∧ s.vm.findClass C = some m.cls ∧ (∀ w ∈ ws, w.before args s = true) ∧ meth.locks = false ∧ va_K (dC, dI) vwCl (tyL cA) s ∧ Os s ∧ meth.name = "<init>"
section KR
variable {p : Program} {l : Launch} {e : Env} {R : Room} {s : State} {m : MethodId} {args : Array Value} {below : List Frame} {meth : Method} {c : Code} {H : Heap} {locs : List Loc} {cells slots : Nat} {Q : State → Prop}
variable {cc : ByteArray} {pc : Nat} {ls : Array Slot} {rest : List Value} {dC : Nat → ClassId} {dI : Nat → Nat → Nat} {cA : Nat → ClassId} {A : Nat → Prop} {w : va_W}
variable {y : MethodName} {bytes : ByteArray} {maxL nL index : Nat} {ws ws' : List Cond} {Ts : List Cond} {own : String} {rm : Room} {mc ms : Nat}
theorem mk_c {S : Type} {B : S → va_W} {x : va_E} {h0 : Nat} (hy : plainName y.cls = true) (hin : y.name = "<init>") (hw : ws = Cond.code y cc maxL none :: ws') (hlen : (lg_sl [Value.ref h0]).length ≤ maxL)
    (body : ∀ (p : Program) (e : Env) (s : State) (m : MethodId) (args : Array Value) (below : List Frame) (meth : Method) (c : Code) (A : Nat → Prop) (ls : Array Slot), Cc p s m args meth c y.cls ws cc maxL dC dI cA → (∀ q, s.heap.size ≤ q → A q) → KS dC dI A s [(h0, x)] s.heap [] → lv_has ls maxL (lv_args 0 [.ref h0]) → W p l e R s m args below meth c s.heap [] 0 0 (MQ below (va_Qv (fun _ : S => True) (fun u t => KB dC dI cA A (B u) t) A) args s mc ms A) (F0 m 0 ls [])) : Kc l dC dI cA y ws R h0 x B mc ms := by
  intro sz
  refine Met.ofW (cc := cc) (maxL := maxL) (ret := none) hy hw ?_
  intro p e s m args below meth c s₁ Bd hml hv
  obtain ⟨ha, hsz, hP, hK, hD0, hO⟩ := hv
  have hts := atoms_spec (ws := ws) Bd.pre
  subst hsz
  have hl := lv_entry [Value.ref h0] (n := maxL) hlen
  rw [show entryFrame m args maxL = entryFrame m ([Value.ref h0] : List Value).toArray maxL by rw [ha], lg_entry_eq]
  exact body p e s m args below meth c (va_A [(h0, x)] s.heap.size) _ ⟨Bd.exec, Bd.bytes, Bd.returns, hml, findClass_of_methodNamed Bd.named, hts, Bd.notSynchronized, hK, hO, (name_of_methodNamed Bd.named Bd.method).1.trans hin⟩ (fun q h => Or.inr h) ⟨hP, hD0.self, va_S.rf⟩ hl
theorem k_ret {S : Type} {B : S → va_W} (u : S) (hx : p.tables.exec = Jvm.exec) (hb : c.code = cc) (hr : meth.sig.returnType = none) (hK : va_K (dC, dI) vwCl (tyL cA) s) (hS : KS dC dI A s (B u) H locs) (hlocks : meth.locks = false) (hdg : decode cc pc = .ok (.return_, 1)) (h1 : cells ≤ mc) (h2 : slots ≤ ms) : W p l e R s m args below meth c H locs cells slots (MQ below (va_Qv (fun _ : S => True) (fun u t => KB dC dI cA A (B u) t) A) args s mc ms A) (F0 m pc ls []) :=
  W.widen h1 h2 (W.vret hx hb hr (fun t ht hW => ⟨⟨u, rfl, trivial, by rw [ht]; exact hS.1, va_K.moved hW.alike hK, hS.2.1⟩, hS.2.2.F ht⟩) hS.2.2.2.2 hdg hlocks)
theorem k_newa (hx : p.tables.exec = Jvm.exec) (hb : c.code = cc) {atype : ArrayType} (harr : (Cond.arrayClass (newarray.typeOf atype)).before args s = true) {ty : FieldType} (hty : newarray.typeOf atype = ty) (hK : va_K (dC, dI) vwCl (tyL cA) s) (t0 : Nat) {cy : ClassId} (ht : (tyL cA)[t0]? = some (cy, ty)) (hS : KS dC dI A s w H locs) (hA : ∀ q, s.heap.size ≤ q → A q)
    {n : Int32} {N' : Nat} {a0 : vp_A} (ha : ∀ cA : ClassId, vp_cell cA a0 = arrV cA N' (fun _ => defaultValue ty)) (hn : ¬ n < 0) (hN : n.toNatClampNeg = N') (hbytes : N' * componentBytes ty ≤ 536870912) (hcells : cells + 1 ≤ R.cells) (hslots : slots + N' ≤ R.slots) (hdg : decode cc pc = .ok (.newarray atype, 2))
    (kk : ∀ (q : Nat) (H1 : Heap), KS dC dI A s (w ++ [(q, .inl (cy, a0))]) H1 locs → W p l e R s m args below meth c H1 locs (cells + 1) (slots + N') Q (F0 m (pc + 2) ls (.ref q :: rest))) : W p l e R s m args below meth c H locs cells slots Q (F0 m pc ls (.int n :: rest)) := by
  refine va_newa hx hb harr hty hK hS.1 hS.2.1 hS.2.2 hA ha hn hN hbytes hcells hslots hdg (fun q cB H1 hK1 hP1 hD1 hS1 => ?_)
  have h1 : va_RA s cB ty := (hK1.2 5 (cB, ty) rfl).2
  have h2 : va_RA s cy ty := (hK.2 t0 _ ht).2
  have he : cB = cy := by
    subst hty
    cases atype <;> exact Option.some.inj (h1.symm.trans h2)
  subst he
  exact kk q H1 ⟨hP1, hD1, hS1⟩
theorem k_newq (hx : p.tables.exec = Jvm.exec) (hb : c.code = cc) (hown : s.vm.findClass own = some m.cls) (hclink : (Cond.classLink own index RX1).before args s = true) (hO : Os s) (hK : va_K (dC, dI) vwCl (tyL cA) s) (hS : KS dC dI A s w H locs) (hA : ∀ q, s.heap.size ≤ q → A q)
    {n : Int32} {N' : Nat} (hn : ¬ n < 0) (hN : n.toNatClampNeg = N') (hbytes : N' * 4 ≤ 536870912) (hcells : cells + 1 ≤ R.cells) (hslots : slots + N' ≤ R.slots) (hdg : decode cc pc = .ok (.anewarray index, 3))
    (kk : ∀ (q : Nat) (H1 : Heap), KS dC dI A s (w ++ [(q, .inl (cA 3, N', .inr (.inr (.inr (.inr (fun _ => none))))))]) H1 locs → W p l e R s m args below meth c H1 locs (cells + 1) (slots + N') Q (F0 m (pc + 3) ls (.ref q :: rest))) : W p l e R s m args below meth c H locs cells slots Q (F0 m pc ls (.int n :: rest)) := by
  refine va_newq (C := RX1) hx hb hown hclink hO.1 hK hS.1 hS.2.1 hS.2.2 hA hn hN hbytes hcells hslots hdg (fun q cB H1 hK1 hP1 hD1 hS1 => ?_)
  obtain ⟨-, -, -, -, -, h1⟩ := (hK1.2 5 (cB, .object RX1) rfl).2
  obtain ⟨-, -, -, -, -, h2⟩ := (hK.2 3 (cA 3, .object "ChanceNets$Net") rfl).2
  have he : cB = cA 3 := Option.some.inj (h1.symm.trans h2)
  subst he
  exact kk q H1 ⟨hP1, hD1, hS1⟩
theorem k_new (hx : p.tables.exec = Jvm.exec) (hb : c.code = cc) {C : String} {T : u_T} {N ci : Nat} (hts : ∀ w ∈ Ts, w.before args s = true) (hin : ∀ w ∈ u_ws C T N, w ∈ Ts) (ty : Nat → FieldType) (hty : ∀ k, k < N → parseFieldDescriptor (T k).2.2.1 = some (ty k)) (hown : s.vm.findClass own = some m.cls) (hcl : (Cond.classLink own index C).before args s = true) (hinst : (Cond.instantiable C N).before args s = true) (hini : (Cond.initialized C).before args s = true)
    (hK : va_K (dC, dI) vwCl (tyL cA) s) (hS : KS dC dI A s w H locs) (hA : ∀ q, s.heap.size ≤ q → A q) (hc : vwCl[ci]? = some (C, T, N)) {fs : List Value} (hfs : ∀ j, j < N → defaultValue (ty j) = vp_V fs j) (hcells : cells + 1 ≤ R.cells) (hslots : slots + N ≤ R.slots) (hdg : decode cc pc = .ok (.new index, 3))
    (kk : ∀ (q : Nat) (H1 : Heap), KS dC dI A s (w ++ [(q, .inr (ci, fs))]) H1 locs → W p l e R s m args below meth c H1 locs (cells + 1) (slots + N) Q (F0 m (pc + 3) ls (.ref q :: rest))) : W p l e R s m args below meth c H locs cells slots Q (F0 m pc ls rest) :=
  va_new (D := (dC, dI)) hx hb hts hin ty hty hown hcl hinst hini hK hS.1 hS.2.1 hS.2.2 hA hc hfs hcells hslots hdg (fun q H1 hP1 hD1 hS1 => kk q H1 ⟨hP1, hD1, hS1⟩)
theorem k_put (hx : p.tables.exec = Jvm.exec) (hb : c.code = cc) {ref C : String} {T : u_T} {N ci : Nat} (hts : ∀ w ∈ Ts, w.before args s = true) (hin : ∀ w ∈ u_ws C T N, w ∈ Ts) (ty0 : Nat → FieldType) (hty : ∀ k, k < N → parseFieldDescriptor (T k).2.2.1 = some (ty0 k)) (hnm : ∀ a, a < N → ∀ b, b < N → a ≠ b → (T a).2.1 ≠ (T b).2.1) (hown : s.vm.findClass own = some m.cls) (hK : va_K (dC, dI) vwCl (tyL cA) s) (hS : KS dC dI A s w H locs) (q0 : Nat) {a : Nat} {fs : List Value} (he : w[q0]? = some (a, .inr (ci, fs))) (hc : vwCl[ci]? = some (C, T, N)) (k : Nat) (hk : k < N) (hlink : (Cond.fieldLink own index ref (T k).2.1 (T k).2.2.1).before args s = true) (href : ref = (T k).1) (hfin : (T k).2.2.2 = false) {v : Value} (hn : narrow (ty0 k) v = v) (hfit : fits (ty0 k) v = true) (hl : k < fs.length) (hdg : decode cc pc = .ok (.putfield index, 3))
    (kk : ∀ (H1 : Heap) (locs1 : List Loc), KS dC dI A s (w.set q0 (a, .inr (ci, fs.set k v))) H1 locs1 → W p l e R s m args below meth c H1 locs1 cells slots Q (F0 m (pc + 3) ls rest)) : W p l e R s m args below meth c H locs cells slots Q (F0 m pc ls (v :: .ref a :: rest)) :=
  va_put (D := (dC, dI)) hx hb hts hin ty0 hty hnm hown hK hS.1 hS.2.1 hS.2.2 q0 he hc k hk hlink (fun x h => by rw [href]; exact h) hfin (hty k hk) hn hfit hl hdg (fun H1 locs1 hP hD hS1 => kk H1 locs1 ⟨hP, hD, hS1⟩)
theorem k_putF (hx : p.tables.exec = Jvm.exec) (hb : c.code = cc) {ref C : String} {T : u_T} {N ci : Nat} (hts : ∀ w ∈ Ts, w.before args s = true) (hin : ∀ w ∈ u_ws C T N, w ∈ Ts) (ty0 : Nat → FieldType) (hty : ∀ k, k < N → parseFieldDescriptor (T k).2.2.1 = some (ty0 k)) (hnm : ∀ a, a < N → ∀ b, b < N → a ≠ b → (T a).2.1 ≠ (T b).2.1) (hown : s.vm.findClass own = some m.cls) (hK : va_K (dC, dI) vwCl (tyL cA) s) (hS : KS dC dI A s w H locs) (q0 : Nat) {a : Nat} {fs : List Value} (he : w[q0]? = some (a, .inr (ci, fs))) (hc : vwCl[ci]? = some (C, T, N)) (k : Nat) (hk : k < N) (hlink : (Cond.fieldLink own index ref (T k).2.1 (T k).2.2.1).before args s = true) (href : ref = (T k).1) (hfin : (T k).2.2.2 = true) (hin2 : meth.name = "<init>") (hdecl : (T k).1 = own) {v : Value} (hn : narrow (ty0 k) v = v) (hfit : fits (ty0 k) v = true) (hl : k < fs.length) (hdg : decode cc pc = .ok (.putfield index, 3))
    (kk : ∀ (H1 : Heap) (locs1 : List Loc), KS dC dI A s (w.set q0 (a, .inr (ci, fs.set k v))) H1 locs1 → W p l e R s m args below meth c H1 locs1 cells slots Q (F0 m (pc + 3) ls rest)) : W p l e R s m args below meth c H locs cells slots Q (F0 m pc ls (v :: .ref a :: rest)) :=
  va_putF (D := (dC, dI)) hx hb hts hin ty0 hty hnm hown hK hS.1 hS.2.1 hS.2.2 q0 he hc k hk hlink (fun x h => by rw [href]; exact h) hfin hin2 hdecl (hty k hk) hn hfit hl hdg (fun H1 locs1 hP hD hS1 => kk H1 locs1 ⟨hP, hD, hS1⟩)
theorem k_callI (S : CallFix p m c cc nL s args Ts own) {T : Type} {B : T → va_W} {x : va_E} {h1 : Nat} {wr : va_W} (hM : Kc l dC dI cA y ws rm h1 x B mc ms) (cw : CallB R s args own index y bytes maxL none ws rm mc ms 0 ∧ y.name = "<init>" ∧ (Cond.instanceMethod y).before args s = true) (hK : va_K (dC, dI) vwCl (tyL cA) s) (hO : Os s) (hS : KS dC dI A s (wr ++ [(h1, x)]) H locs) (hA : ∀ q, s.heap.size ≤ q → A q) (hsize : ls.size = nL) (hW : (rest.map fun v => v.category).sum ≤ 8) (hdg : decode cc pc = .ok (.invokespecial index, 3)) (hf : cells + mc ≤ R.cells ∧ slots + ms ≤ R.slots)
    (kk : ∀ (u : T) (H1 : Heap) (locs1 : List Loc), KS dC dI A s (wr ++ B u) H1 locs1 → W p l e R s m args below meth c H1 locs1 (cells + mc) (slots + ms) Q (F0 m (pc + 3) ls rest)) : W p l e R s m args below meth c H locs cells slots Q (F0 m pc ls (.ref h1 :: rest)) := by
  have hat : (wr ++ [(h1, x)])[wr.length]? = some (h1, x) := by simp
  have one : ∀ (k : Nat) (q : Nat × va_E), [(h1, x)][k]? = some q → k = 0 ∧ q = (h1, x) := fun k q hk => by
    have h9 : k < 1 := (List.getElem?_eq_some_iff.mp hk).1
    have h8 : k = 0 := by omega
    subst h8
    cases hk
    exact ⟨rfl, rfl⟩
  have hPc : va_P (dC, dI) vwCl [(h1, x)] H := fun k q hk => by
    obtain ⟨-, rfl⟩ := one k q hk
    exact hS.1 _ _ hat
  have hDc : va_D (fun _ => True) [(h1, x)] := ⟨fun i j p q hi hj _ => by rw [(one i p hi).1, (one j q hj).1], fun _ _ _ => trivial⟩
  have hFc : ∀ q, va_A [(h1, x)] H.size q → A q := fun q h => by
    rcases h with ⟨k, e9, hk⟩ | h
    · have h9 := (one k _ hk).2
      cases h9
      exact hS.2.1.2 _ _ hat
    · exact hA _ (Nat.le_trans hS.2.2.1 h)
  refine va_callv (va_runI (As := []) (rest := rest) S (hM H.size) cw ⟨fbK, fun U hU hW => ⟨rfl, by rw [hU], by rw [hU]; exact hPc, va_K.moved hW.alike hK, hDc, Os.moved hW.alike hO⟩⟩ rfl rfl hsize rfl (lv_room hW) hdg hf) hS.2.2 (fun q _ h => hFc q h) hFc (fun u t H1 locs1 ht hvm hw hB hz1 hk1 hS1 => ?_)
  obtain ⟨hP1, hK1, hD1⟩ := hB
  rw [ht] at hP1
  have left : ∀ (k : Nat) (q : Nat × va_E), wr[k]? = some q → (wr ++ [(h1, x)])[k]? = some q ∧ k < wr.length := fun k q hk => by
    have h9 : k < wr.length := (List.getElem?_eq_some_iff.mp hk).1
    exact ⟨by rw [List.getElem?_append_left h9]; exact hk, h9⟩
  have far : ∀ (k : Nat) (q : Nat × va_E), wr[k]? = some q → ¬ va_A [(h1, x)] H.size q.1 := fun k q hk h => by
    obtain ⟨h9, h8⟩ := left k q hk
    rcases h with ⟨k2, e9, hk2⟩ | h
    · have h7 := (one k2 _ hk2).2
      have h6 : q.1 = h1 := congrArg Prod.fst h7
      have := hS.2.1.1 _ _ _ _ h9 hat h6
      omega
    · have := (hS.1 _ _ h9).lt
      omega
  refine kk u H1 locs1 ⟨va_P.app (fun k q hk => (hS.1 _ _ (left k q hk).1).kept (hk1 _ ((hS.1 _ _ (left k q hk).1).lt) (far k q hk))) hP1, va_D.app ⟨fun i j p q hi hj hpq => hS.2.1.1 _ _ _ _ (left i p hi).1 (left j q hj).1 hpq, fun k q hk => hS.2.1.2 _ _ (left k q hk).1⟩ ⟨hD1.1, fun k q hk => hFc _ (hD1.2 k q hk)⟩ (fun i j p q hi hj hpq => far i p hi (by rw [hpq]; exact hD1.2 j q hj)), hS1⟩
/-- a grid of 5 rows of 5 longs -/
theorem k_grid (hx : p.tables.exec = Jvm.exec) (hb : c.code = cc) (hown : s.vm.findClass own = some m.cls) (hclink : (Cond.classLink own index "[[J").before args s = true) (hO : Os s) (harr : (Cond.arrayClass .long).before args s = true) (hK : va_K (dC, dI) vwCl (tyL cA) s) (hS : KS dC dI A s w H locs) (hA : ∀ q, s.heap.size ≤ q → A q)
    (hcells : cells + 6 ≤ R.cells) (hslots : slots + 30 ≤ R.slots) (hdg : decode cc pc = .ok (.multianewarray index 2, 4))
    (kk : ∀ (q : Nat) (r : Nat → Nat) (H1 : Heap), KS dC dI A s (w ++ [(q, .inl (cA 4, 5, .inr (.inr (.inr (.inr (fun i => if i < 5 then some (r i) else none)))))), (r 0, .inl (cA 1, 5, .inr (.inl (fun _ => 0)))), (r 1, .inl (cA 1, 5, .inr (.inl (fun _ => 0)))), (r 2, .inl (cA 1, 5, .inr (.inl (fun _ => 0)))), (r 3, .inl (cA 1, 5, .inr (.inl (fun _ => 0)))), (r 4, .inl (cA 1, 5, .inr (.inl (fun _ => 0))))]) H1 locs → W p l e R s m args below meth c H1 locs (cells + 6) (slots + 30) Q (F0 m (pc + 4) ls (.ref q :: rest))) : W p l e R s m args below meth c H locs cells slots Q (F0 m pc ls (.int 5 :: .int 5 :: rest)) := by
  refine gm_W (ty := .long) (N := 5) (M := 5) hx hb hown hclink (va_AOA.use hO.2) harr rfl hdg rfl rfl rfl (by decide) (by decide) (by decide) (by decide) (by decide) hcells hslots (fun ca cb F fa fb hz ho h0 hr => ?_)
  have e1 : ca = cA 4 := Option.some.inj (fa.symm.trans (show s.vm.findClass ("[" ++ (FieldType.array .long).toString) = some (cA 4) from (hK.2 4 (cA 4, .array .long) rfl).2))
  have e2 : cb = cA 1 := Option.some.inj (fb.symm.trans (hK.2 1 _ rfl).2)
  subst e1
  subst e2
  have hrow : ∀ j, j < 5 → F[H.size + 1 + j]? = some (vp_cell (cA 1) (5, .inr (.inl (fun _ => 0)))) := fun j hj => (hr j hj).trans (congrArg some (arrV_new (cA 1) 5 (.long 0)))
  refine kk H.size (fun i => H.size + 1 + i) F ⟨gm_P (es := [.inl (cA 4, 5, .inr (.inr (.inr (.inr (fun i => if i < 5 then some (H.size + 1 + i) else none))))), .inl (cA 1, 5, .inr (.inl (fun _ => 0))), .inl (cA 1, 5, .inr (.inl (fun _ => 0))), .inl (cA 1, 5, .inr (.inl (fun _ => 0))), .inl (cA 1, 5, .inr (.inl (fun _ => 0))), .inl (cA 1, 5, .inr (.inl (fun _ => 0)))]) hS.1 ho (fun i x hi => ?_), gm_D (es := [.inl (cA 4, 5, .inr (.inr (.inr (.inr (fun i => if i < 5 then some (H.size + 1 + i) else none))))), .inl (cA 1, 5, .inr (.inl (fun _ => 0))), .inl (cA 1, 5, .inr (.inl (fun _ => 0))), .inl (cA 1, 5, .inr (.inl (fun _ => 0))), .inl (cA 1, 5, .inr (.inl (fun _ => 0))), .inl (cA 1, 5, .inr (.inl (fun _ => 0)))]) hS.2.1 hS.1 (fun q h => hA q (Nat.le_trans hS.2.2.1 h)), ⟨?_, fun q h1 h2 => (ho q (Nat.lt_of_lt_of_le h1 hS.2.2.1)).trans (hS.2.2.2.1 q h1 h2), hS.2.2.2.2⟩⟩
  · match i, hi with
    | 0, hi => cases hi; exact h0
    | 1, hi => cases hi; exact hrow 0 (by decide)
    | 2, hi => cases hi; exact hrow 1 (by decide)
    | 3, hi => cases hi; exact hrow 2 (by decide)
    | 4, hi => cases hi; exact hrow 3 (by decide)
    | 5, hi => cases hi; exact hrow 4 (by decide)
    | i + 6, hi => simp at hi
  · have := hS.2.2.1
    omega
end KR
