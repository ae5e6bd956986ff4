/-! new T[n][m] (multianewarray of two dimensions): own rows, from the instruction's own text on -/
/-- the outer row when i of its N rows are laid: they stand right behind it -/
def gm_out (c : ClassId) (N a i : Nat) : Cell := arrV c N (fun j => va_rf (if j < i then some (a + 1 + j) else none))
theorem gm_out_new (c : ClassId) (N a : Nat) : ({ cls := c, slots := Array.replicate N .null } : Cell) = gm_out c N a 0 := by
  refine (arrV_new c N .null).trans (congrArg (arrV c N) (funext fun j => ?_))
  simp [va_rf]
theorem gm_out_put (c : ClassId) (N a i : Nat) : (gm_out c N a i).setSlot i (.ref (a + 1 + i)) = gm_out c N a (i + 1) := by
  unfold gm_out
  rw [arrV_store]
  refine congrArg (arrV c N) (funext fun j => ?_)
  unfold updV
  by_cases h : j = i
  · subst h
    rw [if_pos rfl, if_pos (Nat.lt_succ_self j)]
    rfl
  · rw [if_neg h]
    show va_rf (if j < i then some (a + 1 + j) else none) = _
    by_cases h2 : j < i
    · rw [if_pos h2, if_pos (by omega)]
    · rw [if_neg h2, if_neg (by omega)]
/-- the state with the outer row and i rows w behind it -/
def gm_st (s : State) (c : ClassId) (N : Nat) (w : Cell) : Nat → State
  | 0 => s.pushCell (gm_out c N s.heap.size 0)
  | i + 1 => ((gm_st s c N w i).pushCell w).setCell s.heap.size (gm_out c N s.heap.size (i + 1))
section GS
variable (s : State) (c : ClassId) (N : Nat) (w : Cell)
theorem gm_vm : ∀ i, (gm_st s c N w i).vm = s.vm
  | 0 => rfl
  | i + 1 => gm_vm i
theorem gm_java : ∀ i, (gm_st s c N w i).topJava? = s.topJava?
  | 0 => rfl
  | i + 1 => gm_java i
theorem gm_top (f : JFrame) : ∀ i, gm_st (s.setTop f) c N w i = (gm_st s c N w i).setTop f
  | 0 => rfl
  | i + 1 => by
    show ((gm_st (s.setTop f) c N w i).pushCell w).setCell s.heap.size (gm_out c N s.heap.size (i + 1)) = _
    rw [gm_top f i]
    rfl
theorem gm_size : ∀ i, (gm_st s c N w i).heap.size = s.heap.size + 1 + i
  | 0 => by
    show (s.heap.push _).size = _
    rw [Array.size_push]
  | i + 1 => by
    show (((gm_st s c N w i).heap.push w).setIfInBounds _ _).size = _
    rw [Array.size_setIfInBounds, Array.size_push, gm_size i]
    omega
theorem gm_used : ∀ i, (gm_st s c N w i).slotsUsed = s.slotsUsed + N + i * w.slots.size
  | 0 => by
    show s.slotsUsed + (gm_out c N s.heap.size 0).slots.size = _
    rw [show (gm_out c N s.heap.size 0).slots.size = N from arrV_size _ _ _]
    omega
  | i + 1 => by
    show (gm_st s c N w i).slotsUsed + w.slots.size = _
    rw [gm_used i, Nat.succ_mul]
    omega
theorem gm_at_out : ∀ i, (gm_st s c N w i).heap[s.heap.size]? = some (gm_out c N s.heap.size i)
  | 0 => by
    show (s.heap.push _)[s.heap.size]? = _
    simp
  | i + 1 => by
    show (((gm_st s c N w i).heap.push w).setIfInBounds s.heap.size _)[s.heap.size]? = _
    have h := gm_size s c N w i
    rw [Array.getElem?_setIfInBounds_self_of_lt (by rw [Array.size_push]; omega)]
theorem gm_other {a : Nat} (i : Nat) (ha : a ≠ s.heap.size) (hl : a < s.heap.size + 1 + i) : (gm_st s c N w (i + 1)).heap[a]? = (gm_st s c N w i).heap[a]? := by
  show (((gm_st s c N w i).heap.push w).setIfInBounds s.heap.size _)[a]? = _
  have h := gm_size s c N w i
  rw [Array.getElem?_setIfInBounds_ne (Ne.symm ha), Array.getElem?_push, if_neg (by omega)]
theorem gm_old {a : Nat} (ha : a < s.heap.size) : ∀ i, (gm_st s c N w i).heap[a]? = s.heap[a]?
  | 0 => by
    show (s.heap.push _)[a]? = _
    rw [Array.getElem?_push, if_neg (by omega)]
  | i + 1 => (gm_other s c N w i (by omega) (by omega)).trans (gm_old ha i)
theorem gm_row : ∀ i j : Nat, j < i → (gm_st s c N w i).heap[s.heap.size + 1 + j]? = some w
  | 0, j, h => absurd h (Nat.not_lt_zero j)
  | i + 1, j, h => by
    by_cases e : j = i
    · subst e
      show (((gm_st s c N w j).heap.push w).setIfInBounds s.heap.size _)[s.heap.size + 1 + j]? = _
      rw [Array.getElem?_setIfInBounds_ne (by omega), Array.getElem?_push, if_pos (gm_size s c N w j).symm]
    · rw [gm_other s c N w i (by omega) (by omega)]
      exact gm_row i j (by omega)
/-- the round i: a row comes, and the outer one names it -/
theorem gm_next (i : Nat) : ((gm_st s c N w i).pushCell w).setCell s.heap.size ((gm_out c N s.heap.size i).setSlot i (.ref (gm_st s c N w i).heap.size)) = gm_st s c N w (i + 1) := by
  rw [gm_size, gm_out_put]
  rfl
end GS
section GW
variable {E : CtlPost} {e : Env} {d : Bool} {acts : List Action} {s : State}
theorem gm_make1 {cb cz : ClassId} {kB : Class} {ty : FieldType} {k : Int32} {Q : Addr → Pre} (hB : s.vm.classes[cb]? = some kB) (eB : kB.kind = .array cz ty) (hk : ¬ k < 0) (l2 : ¬ k.toNatClampNeg > e.platform.arrayLengthLimit) (b2 : ¬ k.toNatClampNeg * componentBytes ty > e.platform.maxHeapBytes) (hc : s.heap.size < e.platform.maxCells) (hs : s.slotsUsed + k.toNatClampNeg ≤ e.platform.maxSlots)
    (hq : ∀ acts', Q s.heap.size d acts' (s.pushCell { cls := cb, slots := Array.replicate k.toNatClampNeg (defaultValue ty) })) : wp (multianewarray.make cb [k]) Q E e d acts s := by
  simp only [multianewarray.make, hk, if_false, wp_bind', wp_pure', W.theClass, hB, Option.some.injEq, exists_eq_left', eB]
  exact W.newArray_of hB eB l2 b2 hc hs (fits_default ty) hq
/-- the whole of it: the outer row, the rows, and each of them named -/
theorem gm_make2 {ca cb cz : ClassId} {kA kB : Class} {t ty : FieldType} {n k : Int32} {Q : Addr → Pre} (hA : s.vm.classes[ca]? = some kA) (eA : kA.kind = .array cb t) (rt : t.isReference = true) (hB : s.vm.classes[cb]? = some kB) (eB : kB.kind = .array cz ty) (hn : ¬ n < 0) (hk : ¬ k < 0)
    (l1 : ¬ n.toNatClampNeg > e.platform.arrayLengthLimit) (b1 : ¬ n.toNatClampNeg * componentBytes t > e.platform.maxHeapBytes) (l2 : ¬ k.toNatClampNeg > e.platform.arrayLengthLimit) (b2 : ¬ k.toNatClampNeg * componentBytes ty > e.platform.maxHeapBytes)
    (hc : s.heap.size + 1 + n.toNatClampNeg ≤ e.platform.maxCells) (hs : s.slotsUsed + n.toNatClampNeg + n.toNatClampNeg * k.toNatClampNeg ≤ e.platform.maxSlots)
    (hq : ∀ d' acts', Q s.heap.size d' acts' (gm_st s ca n.toNatClampNeg { cls := cb, slots := Array.replicate k.toNatClampNeg (defaultValue ty) } n.toNatClampNeg)) : wp (multianewarray.make ca [n, k]) Q E e d acts s := by
  have fn : ∀ v : Value, (v = .null ∨ ∃ a, v = .ref a) → fits t v = true := fun v hv => by
    rcases hv with rfl | ⟨a, rfl⟩ <;> cases t <;> first | rfl | cases rt
  have hf : List.find? (fun x : Int32 => decide (x < 0)) [k] = none := by simp [hk]
  rw [multianewarray.make]
  simp only [hn, if_false, wp_bind', wp_pure', W.theClass, hA, Option.some.injEq, exists_eq_left', eA, hf]
  refine W.newArray_of hA eA l1 b1 (by omega) (by omega) (fn _ (Or.inl rfl)) (fun acts' => ?_)
  rw [ite_self, wp_bind', gm_out_new ca n.toNatClampNeg s.heap.size, Std.Legacy.Range.forIn_eq_forIn_range']
  generalize hw : ({ cls := cb, slots := Array.replicate k.toNatClampNeg (defaultValue ty) } : Cell) = w at hq
  have hws : w.slots.size = k.toNatClampNeg := by rw [← hw]; exact Array.size_replicate
  refine wp_forIn_inv (fun l s' => ∃ i, i ≤ n.toNatClampNeg ∧ l = List.range' i (n.toNatClampNeg - i) ∧ s' = gm_st s ca n.toNatClampNeg w i) _ _ ⟨0, Nat.zero_le _, ?_, rfl⟩ ?_ ?_
  · simp [Std.Legacy.Range.size]
  · rintro x rest s' d' acts'' Q' ⟨i, hi, hl, rfl⟩ hnext
    have hlt : i < n.toNatClampNeg := by
      rcases Nat.lt_or_ge i n.toNatClampNeg with h | h
      · exact h
      · rw [Nat.sub_eq_zero_of_le h] at hl
        cases hl
    rw [show n.toNatClampNeg - i = (n.toNatClampNeg - (i + 1)) + 1 by omega, List.range'_succ] at hl
    cases hl
    rw [wp_bind']
    have hcell := gm_size s ca n.toNatClampNeg w x
    have hused := gm_used s ca n.toNatClampNeg w x
    have hmul : x * k.toNatClampNeg + k.toNatClampNeg ≤ n.toNatClampNeg * k.toNatClampNeg := by
      rw [← Nat.succ_mul]
      exact Nat.mul_le_mul_right _ hlt
    refine gm_make1 (by rw [gm_vm]; exact hB) eB hk l2 b2 (by omega) (by rw [hused, hws]; omega) (fun acts3 => ?_)
    rw [hw, wp_bind', W.writeLoc]
    refine ⟨gm_out ca n.toNatClampNeg s.heap.size x, ?_, (fun h => by cases h), ?_, ?_, ?_⟩
    · show ((gm_st s ca n.toNatClampNeg w x).heap.push w)[s.heap.size]? = _
      rw [Array.getElem?_push, if_neg (by omega)]
      exact gm_at_out s ca n.toNatClampNeg w x
    · rw [show (gm_out ca n.toNatClampNeg s.heap.size x).slots.size = n.toNatClampNeg from arrV_size _ _ _]
      exact hlt
    · show State.fitsSlot _ ca .none x _ = true
      simp only [State.fitsSlot, State.slotType?, State.vm_pushCell, gm_vm, hA, Option.bind_eq_bind, Option.bind_some, eA]
      exact fn _ (Or.inr ⟨_, rfl⟩)
    · rw [wp_pure', gm_next]
      exact hnext _ _ _ ⟨x + 1, hlt, rfl, rfl⟩
  · rintro s' d' acts'' ⟨i, hi, hl, rfl⟩
    have h0 : n.toNatClampNeg - i = 0 := by
      have := congrArg List.length hl
      rw [List.length_range'] at this
      exact this.symm
    rw [show i = n.toNatClampNeg by omega, wp_pure']
    exact hq _ _
/-- the instruction: its entry is resolved, the counts come off, the rows are made, the outer one goes on the stack -/
theorem gm_sem {f : JFrame} {index : Nat} {ca cb cz : ClassId} {vm₁ : Vm} {kA kB : Class} {t ty : FieldType} {n k : Int32} {rest : List Value} {Q : Unit → Pre} (ht : s.topJava?.isSome) (hg : (Jvm.resolveClass f.method.cls index).Gives e.toSetting s.vm (.ok ca) vm₁) (hr : vm₁.classReady f.method.cls index ca) (hz : vm₁.classes.size ≤ s.vm.classes.size)
    (hA : vm₁.classes[ca]? = some kA) (eA : kA.kind = .array cb t) (rt : t.isReference = true) (hB : vm₁.classes[cb]? = some kB) (eB : kB.kind = .array cz ty) (hst : f.stack = .int k :: .int n :: rest) (hn : ¬ n < 0) (hk : ¬ k < 0)
    (l1 : ¬ n.toNatClampNeg > e.platform.arrayLengthLimit) (b1 : ¬ n.toNatClampNeg * componentBytes t > e.platform.maxHeapBytes) (l2 : ¬ k.toNatClampNeg > e.platform.arrayLengthLimit) (b2 : ¬ k.toNatClampNeg * componentBytes ty > e.platform.maxHeapBytes)
    (hc : s.heap.size + 1 + n.toNatClampNeg ≤ e.platform.maxCells) (hs : s.slotsUsed + n.toNatClampNeg + n.toNatClampNeg * k.toNatClampNeg ≤ e.platform.maxSlots)
    (hq : ∀ d' acts', Q () d' acts' ((gm_st (s.setVm vm₁) ca n.toNatClampNeg { cls := cb, slots := Array.replicate k.toNatClampNeg (defaultValue ty) } n.toNatClampNeg).setTop { f with stack := .ref s.heap.size :: rest })) : wp (multianewarray.sem index 2) Q E e d acts (s.setTop f) := by
  unfold multianewarray.sem
  rw [wp_bind', W.resolveClassAt_transfer (s := s.setTop f) (State.method?_setTop f ht) hg hr hz, W.resolveClassAt_ready (s := (s.setTop f).setVm vm₁) (State.method?_setTop f ht) hr, wp_bind', State.setVm_setTop]
  rw [show (2 : Nat) = ([.int n, .int k] : List Value).length from rfl]
  rw [popN_top (s := s.setVm vm₁) (f := f) (args := [.int n, .int k]) (rest := rest) ht hst]
  simp only [List.mapM_cons, List.mapM_nil, pure_bind, bind_assoc, wp_bind', wp_pure']
  refine gm_make2 hA eA rt hB eB hn hk l1 b1 l2 b2 hc hs (fun d' acts' => ?_)
  rw [wp_bind', W.mark, W.pushRef, gm_top]
  refine ⟨_, State.topJava?_setTop' _ (by rw [gm_java]; exact ht), ?_⟩
  rw [State.setTop_setTop]
  exact hq _ _
end GW
section GR
variable {p : Program} {l : Launch} {e : Env} {R : Room} {s : State} {m : MethodId} {args : Array Value} {below : List Frame} {meth : Method} {c : Code} {T : State} {H : Heap} {locs : List Loc} {cells slots : Nat} {Q : State → Prop}
theorem gm_stand (X : Stand p l e R s m args below meth c T locs cells slots) (ca : ClassId) (N : Nat) (w : Cell) : ∀ i, Stand p l e R s m args below meth c (gm_st T ca N w i) locs (cells + 1 + i) (slots + N + i * w.slots.size)
  | 0 => by
    have h := X.pushed (gm_out ca N T.heap.size 0)
    rw [show (gm_out ca N T.heap.size 0).slots.size = N from arrV_size _ _ _] at h
    rw [Nat.zero_mul]
    exact h
  | i + 1 => by
    have h := (gm_stand X ca N w i).pushed w
    have hz := gm_size T ca N w i
    have ho : ((gm_st T ca N w i).pushCell w).heap[T.heap.size]? = some (gm_out ca N T.heap.size i) := by
      show ((gm_st T ca N w i).heap.push w)[T.heap.size]? = _
      rw [Array.getElem?_push, if_neg (by omega)]
      exact gm_at_out T ca N w i
    have h2 := h.stored ho i (.ref (gm_st T ca N w i).heap.size)
    rw [gm_next] at h2
    have h3 := h2.dropFresh (fun x hx => by
      rw [List.mem_singleton.mp hx]
      exact X.heapGrown)
    rw [Nat.succ_mul, ← Nat.add_assoc (slots + N)]
    exact h3
/-- the row of a walk: what the heap is then, and which classes the new rows have -/
theorem gm_W {cc : ByteArray} (hx : p.tables.exec = Jvm.exec) (hb : c.code = cc) {own : String} {index : Nat} {ty : FieldType} (hown : s.vm.findClass own = some m.cls) (hclink : (Cond.classLink own index ("[" ++ (FieldType.array ty).toString)).before args s = true) (hover : (Cond.arrayOver (.array ty)).before args s = true) (harr : (Cond.arrayClass ty).before args s = true)
    {g : JFrame} (hg : g.method = m) (hdg : decode cc g.pc = .ok (.multianewarray index 2, 4)) {n k : Int32} {N M : Nat} (eN : n.toNatClampNeg = N) (eM : k.toNatClampNeg = M) {rest : List Value} (hst : g.stack = .int k :: .int n :: rest) (hn : ¬ n < 0) (hk : ¬ k < 0) (b1 : N * 4 ≤ 536870912) (b2 : M * componentBytes ty ≤ 536870912) (b3 : M ≤ 536870912) (hcells : cells + (1 + N) ≤ R.cells) (hslots : slots + (N + N * M) ≤ R.slots)
    (kk : ∀ (ca cb : ClassId) (F : Heap), s.vm.findClass ("[" ++ (FieldType.array ty).toString) = some ca → s.vm.findClass (FieldType.array ty).toString = some cb → F.size = H.size + 1 + N → (∀ a, a < H.size → F[a]? = H[a]?) → F[H.size]? = some (gm_out ca N H.size N) → (∀ j, j < N → F[H.size + 1 + j]? = some { cls := cb, slots := Array.replicate M (defaultValue ty) }) →
      W p l e R s m args below meth c F locs (cells + 1 + N) (slots + N + N * M) Q { g with pc := g.pc + 4, stack := .ref H.size :: rest }) : W p l e R s m args below meth c H locs cells slots Q g := by
  intro T hT X
  subst hT; subst hb; subst hg; subst eN; subst eM
  have hpl : e.platform.magicAccessors = ({} : Platform).magicAccessors := by rw [X.admits.platform]
  obtain ⟨cb, ca, kA, fb, -, hA, eA, fa⟩ := arrayOverA_spec hover
  obtain ⟨cb', kB, cz, fb', hB, eB⟩ := Cond.arrayClass_spec harr
  cases (show s.vm.findClass (FieldType.array ty).toString = some cb' from fb').symm.trans fb
  obtain ⟨ca', fa', hcl⟩ := Cond.classLink_spec hown hclink e.platform hpl
  cases fa.symm.trans fa'
  obtain ⟨hg₁, hw₁, hr₁⟩ := State.classEntry (e := e) X.warmed hcl
  have hz₁ : (T.vm.noted g.method.cls index (.cls ca)).classes.size ≤ T.vm.classes.size := by no_record
  generalize T.vm.noted g.method.cls index (.cls ca) = vm₁ at hg₁ hw₁ hr₁ hz₁
  have hal : s.vm.Alike vm₁ := hw₁.alike
  obtain ⟨kA₁, hA₁, xA⟩ := hal.2.2 _ _ hA
  obtain ⟨kB₁, hB₁, xB⟩ := hal.2.2 _ _ hB
  have eA₁ : kA₁.kind = .array cb (.array ty) := by rw [xA]; exact eA
  have eB₁ : kB₁.kind = .array cz ty := by rw [xB]; exact eB
  obtain ⟨r1, r2⟩ := X.roomAbove hcells hslots
  have X₁ := gm_stand (X.noted hw₁) ca n.toNatClampNeg { cls := cb, slots := Array.replicate k.toNatClampNeg (defaultValue ty) } n.toNatClampNeg
  rw [show ({ cls := cb, slots := Array.replicate k.toNatClampNeg (defaultValue ty) } : Cell).slots.size = k.toNatClampNeg from Array.size_replicate] at X₁
  obtain ⟨t, a1, a2⟩ := kk ca cb _ fa fb (gm_size (T.setVm vm₁) ca _ _ _) (fun a ha => gm_old (T.setVm vm₁) ca _ _ ha _) (gm_at_out (T.setVm vm₁) ca _ _ _) (fun j hj => gm_row (T.setVm vm₁) ca _ _ _ j hj) _ rfl X₁
  refine ⟨t, ?_, a2⟩
  jvm_step X.here [hx, hdg]
  refine gm_sem X.here.top hg₁ hr₁ hz₁ hA₁ eA₁ rfl hB₁ eB₁ hst hn hk ?_ ?_ ?_ ?_ (by omega) (by omega) (fun d' acts' acts2 => ?_)
  · rw [Launch.admits_arrayLengthLimit X.admits]; omega
  · rw [Launch.admits_maxHeapBytes X.admits]; show ¬ n.toNatClampNeg * 4 > 536870912; omega
  · rw [Launch.admits_arrayLengthLimit X.admits]; omega
  · rw [Launch.admits_maxHeapBytes X.admits]; omega
  · rw [afterInstr_ok]
    exact a1
/-- new cells, one behind the other from a on -/
def gm_new : Nat → List va_E → va_W
  | _, [] => []
  | a, x :: es => (a, x) :: gm_new (a + 1) es
theorem gm_new_at : ∀ (es : List va_E) (a i : Nat) (q : Nat × va_E), (gm_new a es)[i]? = some q → ∃ x, es[i]? = some x ∧ q = (a + i, x)
  | [], a, i, q, h => by cases h
  | x :: es, a, 0, q, h => by
    cases h
    exact ⟨x, rfl, rfl⟩
  | x :: es, a, i + 1, q, h => by
    obtain ⟨y, h1, h2⟩ := gm_new_at es (a + 1) i q h
    exact ⟨y, h1, by rw [h2, show a + 1 + i = a + (i + 1) by omega]⟩
theorem gm_P {D : va_G} {cl : List vw_C} {w : va_W} {F : Heap} {es : List va_E} (hP : va_P D cl w H) (ho : ∀ a, a < H.size → F[a]? = H[a]?) (hn : ∀ i x, es[i]? = some x → va_at D cl (H.size + i, x) F) : va_P D cl (w ++ gm_new H.size es) F :=
  va_P.app (hP.kept (fun k q hk => ho _ (hP k q hk).lt)) (fun i q hq => by
    obtain ⟨x, h1, rfl⟩ := gm_new_at es _ i q hq
    exact hn i x h1)
theorem gm_D {D : va_G} {cl : List vw_C} {A : Nat → Prop} {w : va_W} {es : List va_E} (hD : va_D A w) (hP : va_P D cl w H) (hA : ∀ q, H.size ≤ q → A q) : va_D A (w ++ gm_new H.size es) :=
  va_D.app hD ⟨fun i j q r hi hj h => by
    obtain ⟨x, -, rfl⟩ := gm_new_at es _ i q hi
    obtain ⟨y, -, rfl⟩ := gm_new_at es _ j r hj
    have h : H.size + i = H.size + j := h
    omega, fun k q hk => by
    obtain ⟨x, -, rfl⟩ := gm_new_at es _ k q hk
    exact hA _ (Nat.le_add_right _ _)⟩ (fun i j q r hi hj h => by
    obtain ⟨x, -, rfl⟩ := gm_new_at es _ j r hj
    have h1 := (hP i q hi).lt
    have h2 : q.1 = H.size + j := h
    omega)
end GR
/-- an array class over arrays of ty, as the tables have it -/
def va_AOA (ty : FieldType) (U : State) : Prop := (Cond.arrayOver (.array ty)).before #[] U = true
theorem va_AOA.use {ty : FieldType} {A : Array Value} {U : State} (h : va_AOA ty U) : (Cond.arrayOver (.array ty)).before A U = true := h
theorem va_AOA.moved {ty : FieldType} {u U : State} (hvm : u.vm.Alike U.vm) (h : va_AOA ty u) : va_AOA ty U := over_moved (a := #[]) (a' := #[]) hvm h
