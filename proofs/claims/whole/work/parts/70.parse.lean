/-! READING as a function of the cells -/
section Parse
def ixG (l : List Int) (c : Int) : Nat → Nat → Int
  | 0, _ => -1
  | k + 1, j => if l.getD j 0 = c then (j : Int) else ixG l c k (j + 1)
def ixF (l : List Int) (c : Int) : Int := ixG l c l.length 0
def lSt : List Int := [25, 17, 11, 27, 19, 10, 26]
def lKd : List Int := [36, 4, 32, 0]
def lRs : List Int := [13, 37, 39, 45]
def lOc : List Int := [8, 24, 56, 16, 40, 48, 32]
def lSg : List Int := [41, 35, 33]
def lDn : List Int := [12, 44, 60, 20, 52, 18, 36]
def stI (c : Int) : Int := if c < 0 then -1 else ixF lSt ((c.toNat &&& 27 : Nat) : Int)
def kdI (c : Int) : Int := ixF lKd ((c.toNat &&& 36 : Nat) : Int)
def sgI (c : Int) : Int := ixF lSg c + 1
def dotN (pk : Nat → Int) (p : Nat) : Nat := if pk p = 4 then (if pk (p + 1) = 4 then 2 else 1) else 0
def sizeP (pk : Nat → Int) (p : Nat) (t : Int) : Except Nat (Nat × Int) := if (pk p = 24 ∨ pk p = 32) ∧ pk (p + 1) = 35 then (if pk (p + 2) = 2 then .ok (p + 3, if pk p = 24 then 0 else 1) else .error (p + 2)) else .ok (p, t)
def openP (pk : Nat → Int) (p : Nat) (o : Bool) : Except Nat (Nat × Bool) := if pk p = 48 ∧ pk (p + 1) = 3 then (if o = true then .error (p + 1) else .ok (p + 2, true)) else .ok (p, o)
def near (q s : Int) : Int := if leapB q (q / 7 * 7 + s) = true then (if q / 7 * 7 + s ≤ q then q / 7 * 7 + s + 7 else q / 7 * 7 + s - 7) else q / 7 * 7 + s
def p1P (pk : Nat → Int) (p : Nat) : Nat := if sgI (pk p) ≤ 0 then p else p + 1
def p2P (pk : Nat → Int) (p : Nat) : Nat := if ixF lOc (pk (p1P pk p)) < 0 then p1P pk p else p1P pk p + 1
def ptP (pk : Nat → Int) (p : Nat) (w : Option Int) : Int :=
  if stI (pk (p2P pk p)) < 0 then -1
  else if ixF lOc (pk (p1P pk p)) < 0 then (match w with
    | none => -1
    | some q => if 7 ≤ near q (stI (pk (p2P pk p))) ∧ near q (stI (pk (p2P pk p))) ≤ 55 then near q (stI (pk (p2P pk p))) else -1)
  else 7 * (ixF lOc (pk (p1P pk p)) + 1) + stI (pk (p2P pk p))
def ivQ (hd pt n : Int) : Int := if hd = 2 then pt + n - 1 else pt - n + 1
def ivR (pk : Nat → Int) (hd pt : Int) : Nat → Nat → List Int → Except Nat (Nat × List Int)
  | 0, p, xs => .ok (p, xs)
  | k + 1, p, xs => if ixF lDn (pk (p1P pk p)) < 0 then .ok (p, xs) else if 7 ≤ ivQ hd pt (ixF lDn (pk (p1P pk p)) + 2) ∧ ivQ hd pt (ixF lDn (pk (p1P pk p)) + 2) ≤ 55 then ivR pk hd pt k (p1P pk p + 1) (xs ++ [ixF lDn (pk (p1P pk p)) + 2 + 16 * sgI (pk p)]) else .error (p1P pk p)
def tieN (pk : Nat → Int) (p : Nat) : Nat := if pk p = 8 ∧ pk (p + 1) = 9 then 1 else 0
def slP (pk : Nat → Int) (p : Nat) (o : Bool) : Nat × Bool × Int := if o = true then (if pk p = 24 ∧ pk (p + 1) = 6 then (p + 2, false, 0) else (p, true, 1)) else (if pk p = 9 then (p + 1, false, 1) else (p, false, 0))
/-- an item: pitch, sign, kind, size, dots, tied, slurred, intervals -/
abbrev Dat : Type := Int × Int × Int × Int × Int × Int × Int × List Int
def itemP (pk : Nat → Int) (hd : Int) (p : Nat) (o : Bool) (t : Int) (w : Option Int) : Except Nat (Nat × Bool × Int × Option Int × Dat) :=
  match sizeP pk p t with
  | .error e => .error e
  | .ok (q0, t1) => match openP pk q0 o with
    | .error e => .error e
    | .ok (q, o1) =>
      if 0 ≤ ixF lRs (pk q) then .ok ((slP pk (q + 1 + dotN pk (q + 1)) o1).1, (slP pk (q + 1 + dotN pk (q + 1)) o1).2.1, t1, w, (0, 0, ixF lRs (pk q), t1, (dotN pk (q + 1) : Int), 0, (slP pk (q + 1 + dotN pk (q + 1)) o1).2.2, []))
      else if ptP pk q w < 0 then .error (p2P pk q)
      else match ivR pk hd (ptP pk q w) 4 (p2P pk q + 1 + dotN pk (p2P pk q + 1)) [] with
        | .error e => .error e
        | .ok (q3, xs) => .ok ((slP pk (q3 + 2 * tieN pk q3) o1).1, (slP pk (q3 + 2 * tieN pk q3) o1).2.1, t1, some (ptP pk q w), (ptP pk q w, sgI (pk q), kdI (pk (p2P pk q)), t1, (dotN pk (p2P pk q + 1) : Int), (tieN pk q3 : Int), (slP pk (q3 + 2 * tieN pk q3) o1).2.2, xs))
def datA (d : Dat) (a : Nat) : Int := match a with
  | 2 => d.1
  | 3 => d.2.1
  | 4 => d.2.2.1
  | 5 => d.2.2.2.1
  | 6 => d.2.2.2.2.1
  | 7 => d.2.2.2.2.2.1
  | 8 => d.2.2.2.2.2.2.1
  | 9 => (d.2.2.2.2.2.2.2.length : Int)
  | a + 10 => d.2.2.2.2.2.2.2.getD a 0
  | _ => 0
def sAdd (S : Mus) (d : Dat) : Mus := (gLen S, gHd S, gNb S, gNi S + 1, gVo S, (fun i a => if i = gNi S then (if a = 0 then (gNb S : Int) - 1 else if a = 1 then (gVo S (gNb S - 1) : Int) - 1 else datA d a) else gIt S i a), gFo S, nup (gSz S) (lastS S).toNat (gSz S (lastS S).toNat + 1))
def sSz (S : Mus) (f0 n : Nat) (g : Nat → Int) : Mus := (gLen S, gHd S, gNb S, gNi S, gVo S, (fun i a => if a = 5 ∧ f0 ≤ i ∧ i < f0 + n then g (i - f0) else gIt S i a), gFo S, gSz S)
def ldG (S : Mus) (f0 : Nat) : Nat → Nat → Nat
  | 0, j => j
  | k + 1, j => if gIt S (f0 + j) 5 = -1 then ldG S f0 k (j + 1) else j
def wS (S : Mus) (f0 : Nat) : Nat → Int := fun j => gIt S (f0 + j) 5
def suR (S : Mus) (f0 n u : Nat) : Int := exS (gLen S - bsS (smf S f0) (wS S f0) n u u)
def szR (S : Mus) (f0 n u j : Nat) : Int := (cst (smf S f0) u (nxS (wS S f0) n u) (suR S f0 n u) (j + 1)).2
/-- the end of the voice of slot s -/
def endV (pk : Nat → Int) (p : Nat) (o : Bool) (S : Mus) (s : Nat) : Except Nat Mus :=
  if o = true ∧ pk p = 35 ∧ pk (p + 1) = 28 then .error (p + 1)
  else if (gSz S s = 1 ∧ gIt S (gFo S s) 2 = 0 ∧ gIt S (gFo S s) 4 = 0 ∧ gIt S (gFo S s) 6 = 0) ∧ gIt S (gFo S s) 5 = -1 then .ok (sSz S (gFo S s) 1 (fun _ => 2))
  else if 0 ≤ suR S (gFo S s) (gSz S s) (ldG S (gFo S s) (gSz S s) 0) ∧ ¬ (lc (smf S (gFo S s)) (ldG S (gFo S s) (gSz S s) 0) (nxS (wS S (gFo S s)) (gSz S s) (ldG S (gFo S s) (gSz S s) 0)) (ldG S (gFo S s) (gSz S s) 0) 0 (suR S (gFo S s) (gSz S s) (ldG S (gFo S s) (gSz S s) 0)) = 1000 ∧ lc (smf S (gFo S s)) (ldG S (gFo S s) (gSz S s) 0) (nxS (wS S (gFo S s)) (gSz S s) (ldG S (gFo S s) (gSz S s) 0)) (ldG S (gFo S s) (gSz S s) 0) 1 (suR S (gFo S s) (gSz S s) (ldG S (gFo S s) (gSz S s) 0)) = 1000) then .ok (sSz S (gFo S s) (ldG S (gFo S s) (gSz S s) 0) (szR S (gFo S s) (gSz S s) (ldG S (gFo S s) (gSz S s) 0)))
  else .error p
def atE (pk : Nat → Int) (p : Nat) : Prop := pk p = 0 ∨ pk p = 64 ∨ pk p = -1 ∨ (pk p = 35 ∧ pk (p + 1) = 28)
/-- a voice, of which n items are read -/
def voP (pk : Nat → Int) (s : Nat) : Nat → Nat → Nat → Bool → Int → Option Int → Mus → Except Nat (Nat × Bool × Option Int × Mus)
  | 0, _, p, _, _, _, _ => .error p
  | k + 1, n, p, o, t, w, S =>
    if 0 < n ∧ (pk p = 0 ∨ pk p = 64 ∨ pk p = -1 ∨ (pk p = 35 ∧ pk (p + 1) = 28)) then (match endV pk p o S s with
      | .error e => .error e
      | .ok S' => .ok (p, o, w, S'))
    else if 40 ≤ n ∨ 600 ≤ gNi S then .error p
    else match itemP pk (gHd S) p o t w with
      | .error e => .error e
      | .ok (p', o', t', w', d) => voP pk s k (n + 1) p' o' t' w' (sAdd S d)
/-- a bar's beginning: the place behind it, the music -/
def barP (pk : Nat → Int) (p : Nat) (o : Bool) (S : Mus) : Except Nat (Nat × Mus) :=
  if (pk p = 54 ∧ (gNb S = 0 ∨ o = true)) ∨ 60 ≤ gNb S then .error p
  else if pk p = 54 then .ok (p + 1, sBar S) else .ok (p, sVoice (sBar S))
/-- a voice, if the bar is not repeated -/
def vcP (pk : Nat → Int) (p : Nat) (o : Bool) (w : Option Int) (S : Mus) : Except Nat (Nat × Bool × Option Int × Mus) :=
  if lastS S < 0 then .ok (p, o, w, S) else voP pk (lastS S).toNat 41 0 p o (-1) w S
def nextP (pk : Nat → Int) (p : Nat) (o : Bool) (w : Option Int) (S : Mus) : Except Nat (Nat × Option Int × Mus) :=
  if pk p = 0 ∨ pk p = 64 then (match barP pk (p + 1) o S with
    | .error e => .error e
    | .ok (p', S') => .ok (p', entS S (gNb S) (if pk p = 64 then none else w), S'))
  else if lastS S < 0 ∨ ¬ (pk p = 35 ∧ pk (p + 1) = 28) then .error p
  else if gVo S (gNb S - 1) < 3 then .ok (p + 2, none, sVoice S) else .error (p + 2)
def runP (pk : Nat → Int) (c : Nat) : Nat → Nat → Bool → Option Int → Mus → Except Nat Mus
  | 0, p, _, _, _ => .error p
  | k + 1, p, o, w, S =>
    if c ≤ p then (if o = true then .error p else .ok S)
    else match nextP pk p o w S with
      | .error e => .error e
      | .ok (p', w', S') => (match vcP pk p' o w' S' with
        | .error e => .error e
        | .ok (p2, o2, w2, S2) => runP pk c k p2 o2 w2 S2)
def hdP (pk : Nat → Int) : Nat × Int := if pk 1 = 28 ∧ pk 0 = 40 then (2, 1) else if pk 1 = 28 ∧ pk 0 = 56 then (2, 2) else (0, 0)
def readP (pk : Nat → Int) (c : Nat) (S : Mus) : Except Nat Mus :=
  match barP pk (hdP pk).1 false (sHd S (hdP pk).2) with
  | .error e => .error e
  | .ok (p', S') => (match vcP pk p' false none S' with
    | .error e => .error e
    | .ok (p2, o2, w2, S2) => runP pk c (c + 1) p2 o2 w2 S2)
end Parse
