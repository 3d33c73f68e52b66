/-! WHAT THE TEXT SAYS: the parser, by recursive descent -/
/-- where the reader stands: the place behind which its token is sought, and the fault (kind, place) -/
abbrev Ps : Type := Nat × Nat × Nat
def bla (k p : Nat) (s : Ps) : Ps := if s.2.1 = 0 then (s.1, k, p) else s
def rfu (bs : List Int32) (s : Ps) : Ps := bla (if qk bs s.1 = 1 then 1 else 2) (qp bs s.1) s
def adv (bs : List Int32) (s : Ps) : Ps := (qn bs s.1, s.2)
def advU (bs : List Int32) (c : Prop) [Decidable c] (s : Ps) : Ps := if c then rfu bs s else adv bs s
def tWord (bs : List Int32) (w : Nat) (s : Ps) : Ps := if s.2.1 = 0 ∧ qx bs s.1 = w then adv bs s else rfu bs s
def tSign (bs : List Int32) (c : Nat) (s : Ps) : Ps := if s.2.1 = 0 ∧ qs bs s.1 = c then adv bs s else rfu bs s
def tNum (bs : List Int32) (least most blamed : Nat) (s : Ps) : Nat × Ps :=
  if s.2.1 ≠ 0 ∨ qk bs s.1 ≠ 4 then (least, rfu bs s)
  else (qv bs s.1, adv bs (if qv bs s.1 < least ∨ most < qv bs s.1 then bla 4 blamed s else s))
def tSNum (bs : List Int32) (most : Nat) (s : Ps) : Int × Ps :=
  if s.2.1 = 0 ∧ qs bs s.1 = 45 then (-((tNum bs 0 most (qp bs s.1) (adv bs s)).1 : Int), (tNum bs 0 most (qp bs s.1) (adv bs s)).2)
  else (((tNum bs 0 most (qp bs s.1) s).1 : Int), (tNum bs 0 most (qp bs s.1) s).2)
def tNew (bs : List Int32) (H : List (List Nat)) (s : Ps) : List Nat × Ps :=
  if s.2.1 ≠ 0 ∨ qk bs s.1 ≠ 2 then ([], rfu bs s)
  else (qw bs s.1, adv bs (if qw bs s.1 ∈ H then bla 3 (qp bs s.1) s else s))
def tTold (bs : List Int32) (H : List (List Nat)) (s : Ps) : Nat × Ps :=
  if s.2.1 ≠ 0 ∨ qk bs s.1 ≠ 2 then (0, rfu bs s)
  else if qw bs s.1 ∈ H then (H.idxOf (qw bs s.1), adv bs s) else (0, bla 5 (qp bs s.1) s)
/-- a law being read: where, its code so far, its units -/
abbrev Es : Type := Ps × List (Nat × Nat) × Nat
def eAdv (bs : List Int32) (s : Es) : Es := (adv bs s.1, s.2)
def eRfu (bs : List Int32) (s : Es) : Es := (rfu bs s.1, s.2)
def ae (c : Nat) (s : Es) : Es := (s.1, s.2.1 ++ [(c, 0)], s.2.2)
def au (c n : Nat) (s : Es) : Es := (s.1, s.2.1 ++ [(c, n)], s.2.2 + 1)
def oT (bs : List Int32) (i : Nat) : Option Nat := if qs bs i = 42 ∨ qs bs i = 47 then some (qs bs i).toNat else none
def oS (bs : List Int32) (i : Nat) : Option Nat := if qs bs i = 43 ∨ qs bs i = 45 then some (qs bs i).toNat else none
def oC (bs : List Int32) (i : Nat) : Option Nat := if qs bs i = 60 ∨ qs bs i = 62 ∨ qs bs i = 61 then some (qs bs i).toNat else none
def oA (bs : List Int32) (i : Nat) : Option Nat := if qx bs i = 11 then some 11 else none
def oO (bs : List Int32) (i : Nat) : Option Nat := if qx bs i = 10 then some 10 else none
def lps (bs : List Int32) (o : Nat → Option Nat) (p : Es → Es) : Nat → Es → Es
  | 0, s => s
  | n + 1, s => if s.1.2.1 = 0 then (match o s.1.1 with
    | some c => lps bs o p n (ae c (p (eAdv bs s)))
    | none => s) else s
def isGv (x : Int) : Bool := decide (x = 6 ∨ x = 7 ∨ x = 13 ∨ x = 14 ∨ x = 15 ∨ x = 16)
def pU (bs : List Int32) (H : List (List Nat)) (r : Option (Es → Es)) (s : Es) : Es :=
  if s.1.2.1 ≠ 0 ∨ 40 ≤ s.2.2 then eRfu bs s
  else if qk bs s.1.1 = 4 then eAdv bs (au 48 (qv bs s.1.1) s)
  else if qx bs s.1.1 = 17 then au 17 (tTold bs H (adv bs s.1)).1 ((tTold bs H (adv bs s.1)).2, s.2)
  else if isGv (qx bs s.1.1) = true then eAdv bs (au (qx bs s.1.1).toNat 0 s)
  else if qs bs s.1.1 = 40 then (match r with
    | some e => (tSign bs 41 (e (eAdv bs (s.1, s.2.1, s.2.2 + 1))).1, (e (eAdv bs (s.1, s.2.1, s.2.2 + 1))).2)
    | none => eRfu bs s)
  else eRfu bs s
def pT (bs : List Int32) (u : Es → Es) (s : Es) : Es := lps bs (oT bs) u 40 (u s)
def pS (bs : List Int32) (u : Es → Es) (s : Es) : Es := lps bs (oS bs) (pT bs u) 40 (pT bs u s)
def pC (bs : List Int32) (u : Es → Es) (s : Es) : Es :=
  if (pS bs u s).1.2.1 = 0 then (match oC bs (pS bs u s).1.1 with
    | some c => ae c (pS bs u (eAdv bs (pS bs u s)))
    | none => pS bs u s) else pS bs u s
def pB (bs : List Int32) (o : Es → Es) (s : Es) : Es := lps bs (oA bs) o 40 (o s)
def pE (bs : List Int32) (o : Es → Es) (s : Es) : Es := lps bs (oO bs) (pB bs o) 40 (pB bs o s)
/-- one, at seven less k deep -/
def pO (bs : List Int32) (H : List (List Nat)) : Nat → Es → Es
  | 0, s => if qx bs s.1.1 = 12 then eRfu bs s else pC bs (pU bs H none) s
  | k + 1, s => if qx bs s.1.1 = 12 then (if s.1.2.1 = 0 then ae 12 (pO bs H k (eAdv bs s)) else eAdv bs s) else pC bs (pU bs H (some (pE bs (pO bs H k)))) s
def pEk (bs : List Int32) (H : List (List Nat)) (k : Nat) : Es → Es := pE bs (pO bs H k)
/-- a town being told: rails (name, length), houses (name, length, weight, rail), besides, neck, draws, law -/
abbrev Bd : Type := List (List Nat × Nat) × List (List Nat × Nat × Nat × Nat) × List (Nat × Nat × Int) × Option Nat × Option Nat × Option (List (Nat × Nat) × Nat)
def bR (B : Bd) : List (List Nat × Nat) := B.1
def bH (B : Bd) : List (List Nat × Nat × Nat × Nat) := B.2.1
def bB (B : Bd) : List (Nat × Nat × Int) := B.2.2.1
def bN (B : Bd) : Option Nat := B.2.2.2.1
def bD (B : Bd) : Option Nat := B.2.2.2.2.1
def bL (B : Bd) : Option (List (Nat × Nat) × Nat) := B.2.2.2.2.2
def bRn (B : Bd) : List (List Nat) := (bR B).map fun x => x.1
def bHn (B : Bd) : List (List Nat) := (bH B).map fun x => x.1
/-- what lies on a rail as told -/
def bOn (B : Bd) (r : Nat) : Nat := (((bH B).filter fun x => x.2.2.2 = r).map fun x => x.2.1).sum
def bLen (B : Bd) (r : Nat) : Nat := ((bR B).map fun x => x.2).getD r 0
def bIs (B : Bd) (a b : Nat) : Bool := (bB B).any fun x => decide ((x.1 = a ∧ x.2.1 = b) ∨ (x.1 = b ∧ x.2.1 = a))
abbrev Rs : Type := Ps × Bd
def lRail (bs : List Int32) (s : Rs) : Rs :=
  let s0 := advU bs (5 ≤ (bR s.2).length) s.1
  let n := tNew bs (bRn s.2) s0
  let s2 := tWord bs 6 n.2
  let l := tNum bs 1 99 (qp bs s2.1) s2
  (tSign bs 59 l.2, (bR s.2 ++ [(n.1, l.1)], s.2.2))
def lHouse (bs : List Int32) (s : Rs) : Rs :=
  let s0 := advU bs (8 ≤ (bH s.2).length) s.1
  let n := tNew bs (bHn s.2) s0
  let s2 := tWord bs 6 n.2
  let l := tNum bs 1 9 (qp bs s2.1) s2
  let s3 := tWord bs 7 l.2
  let w := tNum bs 1 99 (qp bs s3.1) s3
  let s4 := tWord bs 8 w.2
  let r := tTold bs (bRn s.2) s4
  let s5 := if qs bs r.2.1 = 59 ∧ bLen s.2 r.1 < bOn s.2 r.1 + l.1 then bla 6 (qp bs r.2.1) r.2 else r.2
  (tSign bs 59 s5, (bR s.2, bH s.2 ++ [(n.1, l.1, w.1, r.1)], s.2.2.2))
def lBeside (bs : List Int32) (s : Rs) : Rs :=
  let s0 := advU bs (20 ≤ (bB s.2).length) s.1
  let a := tTold bs (bHn s.2) s0
  let b := tTold bs (bHn s.2) a.2
  let s2 := if a.1 = b.1 ∨ bIs s.2 a.1 b.1 = true then bla 3 (qp bs a.2.1) b.2 else b.2
  let w := tSNum bs 99 (tWord bs 9 s2)
  (tSign bs 59 w.2, (bR s.2, bH s.2, bB s.2 ++ [(a.1, b.1, w.1)], s.2.2.2.2))
def lNeck (bs : List Int32) (s : Rs) : Rs :=
  let s0 := advU bs ((bN s.2).isSome = true) s.1
  let n := tNum bs 1 999 (qp bs s0.1) s0
  (tSign bs 59 n.2, (bR s.2, bH s.2, bB s.2, some n.1, s.2.2.2.2.2))
def lDraws (bs : List Int32) (s : Rs) : Rs :=
  let s0 := advU bs ((bD s.2).isSome = true) s.1
  let n := tNum bs 1 999 (qp bs s0.1) s0
  (tSign bs 59 n.2, (bR s.2, bH s.2, bB s.2, bN s.2, some n.1, bL s.2))
def lLaw (bs : List Int32) (s : Rs) : Rs :=
  let s0 := advU bs ((bL s.2).isSome = true) s.1
  let e := pEk bs (bHn s.2) 7 (s0, [], 0)
  (tSign bs 59 e.1, (bR s.2, bH s.2, bB s.2, bN s.2, bD s.2, some e.2))
def lLine (bs : List Int32) (s : Rs) : Rs :=
  if qx bs s.1.1 = 0 then lRail bs s else if qx bs s.1.1 = 1 then lHouse bs s else if qx bs s.1.1 = 2 then lBeside bs s
  else if qx bs s.1.1 = 3 then lNeck bs s else if qx bs s.1.1 = 4 then lDraws bs s else if qx bs s.1.1 = 5 then lLaw bs s else (rfu bs s.1, s.2)
def lLines (bs : List Int32) : Nat → Rs → Rs
  | 0, s => s
  | n + 1, s => if s.1.2.1 = 0 ∧ qk bs s.1.1 ≠ 0 then lLines bs n (lLine bs s) else s
def b0 : Bd := ([], [], [], none, none, none)
def read (bs : List Int32) : Rs := lLines bs 1600 ((0, 0, 0), b0)
