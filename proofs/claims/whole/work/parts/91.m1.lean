/-! polynomials with whole coefficients, to be reckoned by the kernel -/
abbrev Mo := List Nat
abbrev Po := List (Mo × Int)
def mc : Mo → Mo → Nat
  | [], [] => 1
  | [], _ :: _ => 0
  | _ :: _, [] => 2
  | a :: s, b :: t => bif Nat.beq a b then mc s t else bif Nat.blt a b then 0 else 2
theorem mc_eq : ∀ {s t : Mo}, mc s t = 1 → s = t
  | [], [], _ => rfl
  | [], _ :: _, h => by cases h
  | _ :: _, [], h => by cases h
  | a :: s, b :: t, h => by
    unfold mc at h
    cases e : Nat.beq a b
    · rw [e, cond_false] at h
      cases e2 : Nat.blt a b <;> rw [e2] at h <;> cases h
    · rw [e, cond_true] at h
      rw [Nat.eq_of_beq_eq_true e, mc_eq h]
def ins (x : Nat) : Mo → Mo
  | [] => [x]
  | y :: m => bif Nat.ble x y then x :: y :: m else y :: ins x m
def mmul : Mo → Mo → Mo
  | [], t => t
  | x :: s, t => ins x (mmul s t)
def pin (a : Mo × Int) (k : Po → Po) : Po → Po
  | [] => a :: k []
  | b :: q => match mc a.1 b.1 with
    | 0 => a :: k (b :: q)
    | 1 => bif decide (a.2 + b.2 = 0) then k q else (a.1, a.2 + b.2) :: k q
    | _ => b :: pin a k q
def padd : Po → Po → Po
  | [], q => q
  | a :: p, q => pin a (padd p) q
def pneg (p : Po) : Po := p.map (fun t => (t.1, -t.2))
def mulT (t : Mo × Int) (q : Po) : Po := q.map (fun r => (mmul t.1 r.1, t.2 * r.2))
def pmul : Po → Po → Po
  | [], _ => []
  | t :: p, q => padd (mulT t q) (pmul p q)
def mev (ρ : Nat → Int) : Mo → Int
  | [] => 1
  | x :: m => ρ x * mev ρ m
def pev (ρ : Nat → Int) : Po → Int
  | [] => 0
  | t :: p => t.2 * mev ρ t.1 + pev ρ p
theorem mev_ins (ρ : Nat → Int) (x : Nat) : ∀ m, mev ρ (ins x m) = ρ x * mev ρ m
  | [] => rfl
  | y :: m => by
    unfold ins
    cases Nat.ble x y
    · rw [cond_false]
      show ρ y * mev ρ (ins x m) = ρ x * (ρ y * mev ρ m)
      rw [mev_ins ρ x m, Int.mul_left_comm]
    · rfl
theorem mev_mmul (ρ : Nat → Int) : ∀ s t, mev ρ (mmul s t) = mev ρ s * mev ρ t
  | [], t => by simp [mmul, mev]
  | x :: s, t => by
    show mev ρ (ins x (mmul s t)) = _
    rw [mev_ins, mev_mmul ρ s t]
    show _ = ρ x * mev ρ s * mev ρ t
    rw [Int.mul_assoc]
theorem pev_pin (ρ : Nat → Int) (a : Mo × Int) (k : Po → Po) (K : Int) (hk : ∀ q, pev ρ (k q) = K + pev ρ q) : ∀ q, pev ρ (pin a k q) = a.2 * mev ρ a.1 + K + pev ρ q
  | [] => by
    show a.2 * mev ρ a.1 + pev ρ (k []) = _
    rw [hk]
    omega
  | b :: q => by
    unfold pin
    split
    · show a.2 * mev ρ a.1 + pev ρ (k (b :: q)) = _
      rw [hk]
      omega
    · rename_i e
      have he := mc_eq e
      show pev ρ (bif decide (a.2 + b.2 = 0) then k q else (a.1, a.2 + b.2) :: k q) = a.2 * mev ρ a.1 + K + (b.2 * mev ρ b.1 + pev ρ q)
      rw [← he]
      have e3 : (a.2 + b.2) * mev ρ a.1 = a.2 * mev ρ a.1 + b.2 * mev ρ a.1 := Int.add_mul _ _ _
      cases e2 : decide (a.2 + b.2 = 0)
      · rw [cond_false]
        show (a.2 + b.2) * mev ρ a.1 + pev ρ (k q) = _
        rw [hk, e3]
        omega
      · have : a.2 + b.2 = 0 := by simpa using e2
        rw [this, Int.zero_mul] at e3
        rw [cond_true, hk]
        omega
    · show b.2 * mev ρ b.1 + pev ρ (pin a k q) = a.2 * mev ρ a.1 + K + (b.2 * mev ρ b.1 + pev ρ q)
      rw [pev_pin ρ a k K hk q]
      omega
theorem pev_padd (ρ : Nat → Int) : ∀ p q, pev ρ (padd p q) = pev ρ p + pev ρ q
  | [], q => by simp [padd, pev]
  | a :: p, q => by
    show pev ρ (pin a (padd p) q) = a.2 * mev ρ a.1 + pev ρ p + pev ρ q
    exact pev_pin ρ a (padd p) (pev ρ p) (pev_padd ρ p) q
theorem pev_pneg (ρ : Nat → Int) : ∀ p, pev ρ (pneg p) = - pev ρ p
  | [] => rfl
  | t :: p => by
    show -t.2 * mev ρ t.1 + pev ρ (pneg p) = -(t.2 * mev ρ t.1 + pev ρ p)
    rw [pev_pneg ρ p, Int.neg_mul, Int.neg_add]
theorem pev_mulT (ρ : Nat → Int) (t : Mo × Int) : ∀ q, pev ρ (mulT t q) = t.2 * mev ρ t.1 * pev ρ q
  | [] => by simp [mulT, pev]
  | r :: q => by
    show t.2 * r.2 * mev ρ (mmul t.1 r.1) + pev ρ (mulT t q) = t.2 * mev ρ t.1 * (r.2 * mev ρ r.1 + pev ρ q)
    rw [pev_mulT ρ t q, mev_mmul, Int.mul_add]
    congr 1
    rw [Int.mul_assoc, Int.mul_assoc, Int.mul_left_comm r.2]
theorem pev_pmul (ρ : Nat → Int) : ∀ p q, pev ρ (pmul p q) = pev ρ p * pev ρ q
  | [], q => by simp [pmul, pev]
  | t :: p, q => by
    show pev ρ (padd (mulT t q) (pmul p q)) = (t.2 * mev ρ t.1 + pev ρ p) * pev ρ q
    rw [pev_padd, pev_mulT, pev_pmul ρ p q, Int.add_mul]
def teq (a b : Mo × Int) : Bool := bif Nat.beq (mc a.1 b.1) 1 then decide (a.2 = b.2) else false
def peq : Po → Po → Bool
  | [], [] => true
  | [], _ :: _ => false
  | _ :: _, [] => false
  | a :: p, b :: q => bif teq a b then peq p q else false
theorem peq_eq : ∀ {p q : Po}, peq p q = true → p = q
  | [], [], _ => rfl
  | [], _ :: _, h => by cases h
  | _ :: _, [], h => by cases h
  | (m, a) :: p, (m2, b) :: q, h => by
    unfold peq at h
    cases e : teq (m, a) (m2, b)
    · rw [e] at h
      cases h
    · rw [e, cond_true] at h
      unfold teq at e
      cases e2 : Nat.beq (mc m m2) 1
      · rw [e2] at e
        cases e
      · rw [e2, cond_true] at e
        have e3 := mc_eq (Nat.eq_of_beq_eq_true e2)
        have e4 : a = b := by simpa using e
        rw [e3, e4, peq_eq h]
/-- no coefficient is below 0 -/
def pos : Po → Bool
  | [] => true
  | t :: p => (match t.2 with
    | .ofNat _ => pos p
    | .negSucc _ => false)
theorem pos_ge {ρ : Nat → Int} (hρ : ∀ x, 0 ≤ ρ x) : ∀ {p : Po}, pos p = true → 0 ≤ pev ρ p
  | [], _ => Int.le_refl _
  | (m, .ofNat a) :: p, h => by
    have hm : ∀ m, 0 ≤ mev ρ m := by
      intro m
      induction m with
      | nil => show (0 : Int) ≤ 1; decide
      | cons x m ih => exact Int.mul_nonneg (hρ x) ih
    have := pos_ge hρ (p := p) h
    have h2 : 0 ≤ Int.ofNat a * mev ρ m := Int.mul_nonneg (Int.natCast_nonneg a) (hm m)
    show 0 ≤ Int.ofNat a * mev ρ m + pev ρ p
    omega
  | (m, .negSucc a) :: p, h => by cases h
/-! determinants by rows -/
def lap (f : Nat → List Nat → Int) : List Nat → List Nat → Int
  | _, [] => 0
  | pre, c :: cs => f c (pre ++ cs) - lap f (pre ++ [c]) cs
def dtI (M : Nat → Nat → Int) : List Nat → List Nat → Int
  | [], _ => 1
  | r :: rs, cs => lap (fun c rest => M r c * dtI M rs rest) [] cs
def plap (f : Nat → List Nat → Po) : List Nat → List Nat → Po
  | _, [] => []
  | pre, c :: cs => padd (f c (pre ++ cs)) (pneg (plap f (pre ++ [c]) cs))
def pd (E : Nat → Nat → Po) : List Nat → List Nat → Po
  | [], _ => [([], 1)]
  | r :: rs, cs => plap (fun c rest => pmul (E r c) (pd E rs rest)) [] cs
theorem pev_plap (ρ : Nat → Int) {f : Nat → List Nat → Po} {g : Nat → List Nat → Int} (h : ∀ c r, pev ρ (f c r) = g c r) : ∀ cs pre, pev ρ (plap f pre cs) = lap g pre cs
  | [], _ => rfl
  | c :: cs, pre => by
    show pev ρ (padd (f c (pre ++ cs)) (pneg (plap f (pre ++ [c]) cs))) = g c (pre ++ cs) - lap g (pre ++ [c]) cs
    rw [pev_padd, pev_pneg, h, pev_plap ρ h cs]
    omega
theorem pev_pd (ρ : Nat → Int) (E : Nat → Nat → Po) (M : Nat → Nat → Int) (h : ∀ i j, pev ρ (E i j) = M i j) : ∀ rs cs, pev ρ (pd E rs cs) = dtI M rs cs
  | [], _ => by
    show (1 : Int) * 1 + 0 = 1
    rfl
  | r :: rs, cs => pev_plap ρ (fun c rest => by rw [pev_pmul, h, pev_pd ρ E M h rs]) cs []
theorem lap_map (f : Nat → List Nat → Int) (c : Nat → Nat) : ∀ cs pre, lap f (pre.map c) (cs.map c) = lap (fun x rest => f (c x) (rest.map c)) pre cs
  | [], _ => rfl
  | x :: cs, pre => by
    show f (c x) (pre.map c ++ cs.map c) - lap f (pre.map c ++ [c x]) (cs.map c) = f (c x) ((pre ++ cs).map c) - lap _ (pre ++ [x]) cs
    rw [← lap_map f c cs (pre ++ [x]), List.map_append, List.map_append]
    rfl
theorem dtI_map (M : Nat → Nat → Int) (r c : Nat → Nat) : ∀ rs cs, dtI M (rs.map r) (cs.map c) = dtI (fun a b => M (r a) (c b)) rs cs
  | [], _ => rfl
  | x :: rs, cs => by
    show lap (fun y rest => M (r x) y * dtI M (rs.map r) rest) ([].map c) (cs.map c) = lap (fun y rest => M (r x) (c y) * dtI (fun a b => M (r a) (c b)) rs rest) [] cs
    rw [lap_map]
    congr 1
    funext y rest
    rw [dtI_map M r c rs rest]
theorem lap_congr {f g : Nat → List Nat → Int} : ∀ cs pre, (∀ c rest, (∀ x ∈ c :: rest, x ∈ pre ++ cs) → f c rest = g c rest) → lap f pre cs = lap g pre cs
  | [], _, _ => rfl
  | c :: cs, pre, h => by
    show f c (pre ++ cs) - lap f (pre ++ [c]) cs = g c (pre ++ cs) - lap g (pre ++ [c]) cs
    rw [h c (pre ++ cs) (fun x hx => by simp at hx ⊢; rcases hx with q | q | q <;> simp [q]), lap_congr cs (pre ++ [c]) (fun d rest hd => h d rest (fun x hx => by have := hd x hx; simpa using this))]
theorem dtI_congr {M N : Nat → Nat → Int} : ∀ rs cs, (∀ r ∈ rs, ∀ c ∈ cs, M r c = N r c) → dtI M rs cs = dtI N rs cs
  | [], _, _ => rfl
  | r :: rs, cs, h => lap_congr cs [] (fun c rest hc => by
    rw [h r List.mem_cons_self c (by simpa using hc c List.mem_cons_self), dtI_congr rs rest (fun a ha b hb => h a (List.mem_cons_of_mem _ ha) b (by simpa using hc b (List.mem_cons_of_mem _ hb)))])
/-- Sylvester: what Bareiss divides by -/
def gv (a b : Nat) : Po := [([a * 5 + b], 1)]
def mnP (k i j : Nat) : Po := pd gv (List.range k ++ [i]) (List.range k ++ [j])
def sylP (k : Nat) : Bool := peq (padd (pmul (mnP k (k + 1) (k + 1)) (mnP k k k)) (pneg (pmul (mnP k (k + 1) k) (mnP k k (k + 1))))) (pmul (pd gv (List.range (k + 2)) (List.range (k + 2))) (pd gv (List.range k) (List.range k)))
theorem syl0 : sylP 0 = true := by decide +kernel
theorem syl1 : sylP 1 = true := by decide +kernel
theorem syl2 : sylP 2 = true := by decide +kernel
