/-! tokens -/
/-- a letter's number -/
def sLn (c : Int32) : Nat := if 97 ≤ c.toNatClampNeg then c.toNatClampNeg - 97 else c.toNatClampNeg - 65
theorem sLn_lt {c : Int32} (h : pu_ch c) (hl : sLet c = true) : sLn c < 26 := by
  obtain ⟨k, h1, h2, rfl⟩ := h
  rw [sLet_nI (by omega)] at hl
  simp only [Bool.or_eq_true, decide_eq_true_eq] at hl
  unfold sLn
  rw [nI_clamp (by omega)]
  split <;> omega
def sNameEnd (t : Nat → Int32) (n p : Nat) : Nat := sFind (fun i => !sLet (t i)) (n - p) p
def sName (t : Nat → Int32) (n p : Nat) : Nat := if sNameEnd t n p = p + 1 then sLn (t p) else 26
/-- where an attribute's name ends -/
def sAe (t : Nat → Int32) (n p : Nat) : Nat := sFind (fun i => decide (t i = 32) || decide (t i = 47) || decide (t i = 62) || decide (t i = 61)) (n - (p + 1)) (p + 1)
def sAl (t : Nat → Int32) (n p : Nat) : Option Nat := if sAe t n p = p + 1 ∧ sLet (t p) = true then some (sLn (t p)) else none
def sBl (t : Nat → Int32) (n p : Nat) : Nat := sFind (fun i => !decide (t i = 32)) (n - p) p
def sQ (c : Int32) : Bool := decide (c = 34) || decide (c = 39)
def sVb (t : Nat → Int32) (n r : Nat) : Nat := if sQ (t (sBl t n (r + 1))) = true then sBl t n (r + 1) + 1 else sBl t n (r + 1)
def sVe (t : Nat → Int32) (n r : Nat) : Nat := sFind (fun i => if sQ (t (sBl t n (r + 1))) = true then decide (t i = t (sBl t n (r + 1))) else decide (t i = 32) || decide (t i = 62)) (n - sVb t n r) (sVb t n r)
def sVn (t : Nat → Int32) (n r : Nat) : Nat := if sQ (t (sBl t n (r + 1))) = true then sVe t n r + 1 else sVe t n r
/-- an attribute at p: where its value begins and ends, where it goes on -/
def sAt (t : Nat → Int32) (n p : Nat) : Nat × Nat × Nat :=
  let r := sBl t n (sAe t n p)
  if t r = 61 then (sVb t n r, sVe t n r, sVn t n r) else (0, 0, r)
def sPutA (acc : List (Nat × Nat × Nat)) (a : Option Nat) (b e : Nat) : List (Nat × Nat × Nat) := match a with
  | none => acc
  | some l => if acc.any (fun q => q.1 == l) = true then acc else acc ++ [(l, b, e)]
/-- the attributes of a tag from p on: none if it has no end -/
def sTagL (t : Nat → Int32) (n : Nat) : Nat → Nat → List (Nat × Nat × Nat) → Option (Nat × List (Nat × Nat × Nat))
  | 0, _, _ => none
  | j + 1, p, acc => if n ≤ p then none else if t p = 62 then some (p + 1, acc) else if t p = 32 ∨ t p = 47 then sTagL t n j (p + 1) acc else sTagL t n j (sAt t n p).2.2 (sPutA acc (sAl t n p) (sAt t n p).1 (sAt t n p).2.1)
def sRawEnd (t : Nat → Int32) (i : Nat) : Bool := decide (t i = 60) && decide (t (i + 1) = 47) && (decide (t (i + 2) = 115) || decide (t (i + 2) = 83)) && (decide (t (i + 3) = 0) || decide (t (i + 3) = 32) || decide (t (i + 3) = 47) || decide (t (i + 3) = 62))
def sMark (t : Nat → Int32) (i : Nat) : Bool := decide (t i = 60) && (decide (t (i + 1) = 33) || decide (t (i + 1) = 63) || decide (t (i + 1) = 47) || sLet (t (i + 1)))
def sIsTag (t : Nat → Int32) (i : Nat) : Bool := sLet (t (i + 1)) || (decide (t (i + 1) = 47) && sLet (t (i + 2)))
def sLong (t : Nat → Int32) (i : Nat) : Bool := decide (t (i + 1) = 33) && decide (t (i + 2) = 45) && decide (t (i + 3) = 45)
def sVals (t : Nat → Int32) (acc : List (Nat × Nat × Nat)) : List (Nat × List Int32) := acc.map (fun q => (q.1, sVal t q.2.1 q.2.2))
/-- where it is read, is a raw text due, what is open, the nodes -/
abbrev PS : Type := Nat × Bool × Stk × List Nd
def sTok (t : Nat → Int32) (n : Nat) (S : PS) : PS :=
  let p := S.1
  let st := S.2.2.1
  let nd := S.2.2.2
  if n ≤ p then S
  else if S.2.1 = true then
    let e := sFind (sRawEnd t) (n - p) p
    (e, false, st, if p < e then sAdd (sSeg t p e) st nd else nd)
  else if sMark t p = false then
    (match sRef t p with
      | some (c, s) => if p + s ≤ n then (p + s, false, st, sAdd [nI c] st nd) else (p + 1, false, st, sAdd [t p] st nd)
      | none => (p + 1, false, st, sAdd [t p] st nd))
  else if sIsTag t p = false then
    (if sLong t p = true then
      let e := sFind (fun i => decide (t i = 45) && decide (t (i + 1) = 45) && decide (t (i + 2) = 62)) (n - (p + 4)) (p + 4)
      ((if e < n then e + 3 else n), false, st, sCom (sSeg t (p + 4) e) st nd)
    else
      let e := sFind (fun i => decide (t i = 62)) (n - (p + 2)) (p + 2)
      ((if e < n then e + 1 else n), false, st, sCom (sSeg t (p + 2) e) st nd))
  else
    let en := decide (t (p + 1) = 47)
    let q := if en = true then p + 2 else p + 1
    match sTagL t n (n + 1) (sNameEnd t n q) [] with
    | none => (n, false, st, nd)
    | some (r, acc) => if en = true then (r, false, (sEnd (sName t n q) st nd).1, (sEnd (sName t n q) st nd).2)
      else
        let s := sStart (sName t n q) (sVals t acc) st nd
        (r, s.1 && sRawAt (sName t n q) st, s.2.1, s.2.2)
def sIter (t : Nat → Int32) (n : Nat) : Nat → PS → PS
  | 0, S => S
  | k + 1, S => sIter t n k (sTok t n S)
theorem sTok_stop {t : Nat → Int32} {n : Nat} {S : PS} (h : n ≤ S.1) : sTok t n S = S := by
  unfold sTok
  simp only [h, if_true]
theorem sIter_stop {t : Nat → Int32} {n : Nat} : ∀ (k : Nat) {S : PS}, n ≤ S.1 → sIter t n k S = S
  | 0, _, _ => rfl
  | k + 1, S, h => by rw [sIter, sTok_stop h, sIter_stop k h]
theorem sIter_add {t : Nat → Int32} {n : Nat} : ∀ (j k : Nat) (S : PS), sIter t n (j + k) S = sIter t n k (sIter t n j S)
  | 0, k, S => by rw [Nat.zero_add]; rfl
  | j + 1, k, S => by rw [show j + 1 + k = (j + k) + 1 by omega, sIter, sIter_add j k, sIter]
/-- two readings that have come to the end have come to the same -/
theorem sIter_same {t : Nat → Int32} {n j k : Nat} {S : PS} (h1 : n ≤ (sIter t n j S).1) (h2 : n ≤ (sIter t n k S).1) : sIter t n j S = sIter t n k S := by
  rcases Nat.le_total j k with h | h
  · obtain ⟨d, rfl⟩ := Nat.exists_eq_add_of_le h
    rw [sIter_add, sIter_stop d h1]
  · obtain ⟨d, rfl⟩ := Nat.exists_eq_add_of_le h
    rw [sIter_add, sIter_stop d h2]
