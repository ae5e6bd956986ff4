theorem syl3 : sylP 3 = true := by decide +kernel
/-! the forests as polynomials: variable 50 + x for what is given at node x, 6 + 6 i + j for the width of i and j -/
def lat (lab : List Nat) (x : Nat) : Nat := lab.getD x 0
def ljn (lab : List Nat) (a b : Nat) : List Nat := lab.map (fun y => bif Nat.beq y b then a else y)
def ev (e : Nat × Nat) : Nat := 6 + 6 * e.1 + e.2
def gP (lf : List Nat → List Mo) : Nat → List (Nat × Nat) → List Nat → Mo → Po → Po
  | 0, _, lab, m, out => (lf lab).foldr (fun t o => (List.reverseAux m t, 1) :: o) out
  | _ + 1, [], _, _, out => out
  | k + 1, e :: L, lab, m, out => bif Nat.beq (lat lab e.1) (lat lab e.2) then gP lf (k + 1) L lab m out else gP lf k L (ljn lab (lat lab e.1) (lat lab e.2)) (ev e :: m) (gP lf (k + 1) L lab m out)
def tP (n : Nat) : Po := gP (fun _ => [[]]) (n - 1) (prs n) (List.range 6) [] []
def bF (n v u : Nat) (lab : List Nat) : List Mo := bif Nat.beq (lat lab u) (lat lab v) then [] else ((List.range n).filter (fun x => Nat.beq (lat lab x) (lat lab u))).map (fun x => [50 + x])
def bP (n v u : Nat) : Po := gP (bF n v u) (n - 2) (prs n) (List.range 6) [] []
/-- the matrix: column 9 is what is given -/
def xP (a b : Nat) : Nat := bif Nat.blt a b then ev (a, b) else ev (b, a)
def dP (n a : Nat) : Po := (List.range n).foldr (fun x p => bif Nat.beq x a then p else padd [([xP a x], 1)] p) []
def eP (n a b : Nat) : Po := bif Nat.beq b 9 then [([50 + a], 1)] else bif Nat.beq a b then dP n a else [([xP a b], -1)]
/-- the order of the rows -/
def ord (n v u : Nat) : List Nat := (List.range n).filter (fun x => !(Nat.beq x v) && !(Nat.beq x u)) ++ [u]
def ckB (n v u : Nat) : Bool := peq (pd (eP n) (ord n v u) ((ord n v u).dropLast ++ [9])) (bP n v u)
def ckT (n : Nat) : Bool := peq (pd (eP n) (ord n 0 1) (ord n 0 1)) (tP n)
def ckC (n v u : Nat) : Bool := (List.range (n - 2)).all (fun k => pos (padd (pmul (dP n (lat (ord n v u) (k + 1))) (pd (eP n) ((ord n v u).take (k + 1)) ((ord n v u).take (k + 1)))) (pneg (pd (eP n) ((ord n v u).take (k + 2)) ((ord n v u).take (k + 2))))))
