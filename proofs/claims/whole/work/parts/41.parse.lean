abbrev SemT : Type := (Nat → Int32) → Nat → Bool
abbrev ResT : Type := Bool × Nat × List Int32 × SemT
def semN : SemT := fun _ _ => false
def isDig (c : Int32) : Bool := decide (nI 48 ≤ c) && decide (c ≤ nI 57)
def digV (c : Int32) : Nat := (c - nI 48).toNatClampNeg
/-- a number: good, where the reading stands behind it, its value -/
def pNum (pk : Nat → Int32) (p : Nat) : Bool × Nat × Nat :=
  if isDig (pk p) then
    (if digV (pk p) ≠ 0 ∧ isDig (pk (p + 1)) = true then (true, p + 2, digV (pk p) * 10 + digV (pk (p + 1))) else (true, p + 1, digV (pk p)))
  else (false, p, 0)
def entry (sg : Int32) (v : Nat) : Int32 := (sg <<< (nI 8 &&& 31)) ||| nI v
/-- sign, what it says of a number v -/
def factSem (sg : Int32) (v : Nat) : SemT := fun g a =>
  if sg = nI 115 then decide (a / 3600 = v) else if sg = nI 103 then decide (g (a / 120 % 30) = nI v) else if sg = nI 109 then decide (a / 24 % 5 = v) else if sg = nI 112 then decide (a / 120 % 30 = v) else if sg = nI 60 then decide (a % 24 < v) else decide (v < a % 24)
def numRes (sg : Int32) (r : Bool × Nat × Nat) : ResT := (r.1, r.2.1, [entry sg r.2.2], factSem sg r.2.2)
def pTail (pk : Nat → Int32) (sep : Int32) (op : Bool → Bool → Bool) (F : Nat → ResT) : Nat → ResT → ResT
  | 0, r => r
  | n + 1, r => if r.1 = true ∧ pk r.2.1 = sep then
      pTail pk sep op F n ((F (r.2.1 + 1)).1, (F (r.2.1 + 1)).2.1, r.2.2.1 ++ (F (r.2.1 + 1)).2.2.1 ++ [entry sep 0], fun g a => op (r.2.2.2 g a) ((F (r.2.1 + 1)).2.2.2 g a))
    else r
def pAllF (pk : Nat → Int32) (F : Nat → ResT) (p : Nat) : ResT := pTail pk (nI 38) and F 120 (F p)
def pAnyF (pk : Nat → Int32) (F : Nat → ResT) (p : Nat) : ResT := pTail pk (nI 124) or (pAllF pk F) 120 (pAllF pk F p)
/-- a fact at p, with o signs that wait -/
def pFact (pk : Nat → Int32) : Nat → Nat → Nat → ResT
  | 0, _, p => (false, p, [], semN)
  | d + 1, o, p =>
    if pk p = nI 33 then
      (if o = 6 then (false, p, [], semN) else
        ((pFact pk d (o + 1) (p + 1)).1, (pFact pk d (o + 1) (p + 1)).2.1, (pFact pk d (o + 1) (p + 1)).2.2.1 ++ [entry (nI 33) 0], fun g a => !((pFact pk d (o + 1) (p + 1)).2.2.2 g a)))
    else if pk p = nI 40 then
      (if o = 6 then (false, p, [], semN) else
        if (pAnyF pk (pFact pk d (o + 1)) (p + 1)).1 = true then
          (if pk (pAnyF pk (pFact pk d (o + 1)) (p + 1)).2.1 = nI 41 then (true, (pAnyF pk (pFact pk d (o + 1)) (p + 1)).2.1 + 1, (pAnyF pk (pFact pk d (o + 1)) (p + 1)).2.2) else (false, (pAnyF pk (pFact pk d (o + 1)) (p + 1)).2.1, [], semN))
        else (false, (pAnyF pk (pFact pk d (o + 1)) (p + 1)).2.1, [], semN))
    else if pk p = nI 104 then
      (if pk (p + 1) = nI 60 then numRes (nI 60) (pNum pk (p + 2)) else if pk (p + 1) = nI 62 then numRes (nI 62) (pNum pk (p + 2)) else (false, p + 1, [], semN))
    else if pk p = nI 115 ∨ pk p = nI 103 ∨ pk p = nI 109 ∨ pk p = nI 112 then
      (if pk (p + 1) = nI 61 then numRes (pk p) (pNum pk (p + 2)) else (false, p + 1, [], semN))
    else (false, p, [], semN)
def pSome (pk : Nat → Int32) (p : Nat) : ResT := pAnyF pk (pFact pk 8 0) p
def pkS (s : Nat → Int32) (i : Nat) : Nat → Int32 := fun p => if p < (s (4450 + i)).toNatClampNeg then s (4750 + 120 * i + p) else -1
/-- the text in slot i of s, and a row that holds its code -/
def TextOK (s : Nat → Int32) (i : Nat) (len : Nat) (row : Nat → Int32) : Prop :=
  ∃ (L : Nat) (cl : List (Bool × Nat)), L ≤ 120 ∧ s (4450 + i) = nI L ∧ cl.length ≤ 8 ∧ s (4470 + i) = nI cl.length ∧
    (∀ k b p, cl[k]? = some (b, p) → s (4490 + (8 * i + k)) = nI (if b then 1 else 0) ∧ s (4620 + (8 * i + k)) = nI p ∧ p ≤ 120 ∧ (pSome (pkS s i) p).1 = true) ∧
    (cl.map (fun q => (pSome (pkS s i) q.2).2.2.1 ++ [entry (if q.1 then nI 108 else nI 98) 0])).flatten = (List.range len).map row ∧ len < 120
