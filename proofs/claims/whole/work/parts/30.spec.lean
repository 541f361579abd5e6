/-! THE PICTURE: what a text is read into, said over lists. The stack has its top first, the nodes have the last first. -/
/-- kind, letter, depth, foreign, characters, attributes (letter and value, as they came) -/
abbrev Nd : Type := Nat × Nat × Nat × Bool × List Int32 × List (Nat × List Int32)
abbrev Stk : Type := List (Nat × Bool)
def sAlien : Stk → Bool
  | [] => false
  | (l, f) :: _ => f && !(l == 5)
/-- behind the closing of the last element l in the tail -/
def sTail (f0 : Bool) (l : Nat) : Stk → Option Stk
  | [] => none
  | (l', f') :: r => if f' = f0 then (if l' = l then some r else sTail f0 l r) else none
/-- the last element named l or m in the scope, and what is below it -/
def sScope (l m : Nat) : Stk → Option (Nat × Stk)
  | [] => none
  | (l', f') :: r => if f' = true then none else if l' = l ∨ l' = m then some (l', r) else sScope l m r
def sBlock (l : Nat) : Bool := l == 3 || l == 15 || l == 20 || l == 11
def sEmpty (l : Nat) : Bool := l == 13 || l == 12
def sLeave : Stk → Stk
  | [] => []
  | x :: r => if sAlien (x :: r) = true then sLeave r else x :: r
def sShut (o : Option (Nat × Stk)) (st : Stk) : Stk := match o with
  | none => st
  | some (_, r) => r
/-- what is open when a START l is about to be put -/
def sPrep (l : Nat) (st : Stk) : Stk :=
  let s1 := if sBlock l = true then sLeave st else st
  if sAlien s1 = true then s1 else
    let s2 := if sBlock l = true then sShut (sScope 15 15 s1) s1 else s1
    let s3 := if l = 11 then (match sScope 11 20 s2 with
      | some (11, r) => r
      | _ => s2) else s2
    if l = 0 then sShut (sScope 0 0 s3) s3 else s3
def sStays (l : Nat) (s : Stk) : Bool := sAlien s || !sEmpty l
def sFull (l : Nat) (s : Stk) : Bool := sStays l s && s.length == 8
def sFor (l : Nat) (s : Stk) : Bool := l == 21 || sAlien s
def sNode (l : Nat) (s : Stk) (at' : List (Nat × List Int32)) : Nd := (3, l, s.length, sFor l s, [], at')
/-- a START: was it put, what is open, the nodes -/
def sStart (l : Nat) (at' : List (Nat × List Int32)) (st : Stk) (nd : List Nd) : Bool × Stk × List Nd :=
  let s := sPrep l st
  if sFull l s = true then (false, s, nd) else (true, (if sStays l s = true then (l, sFor l s) :: s else s), sNode l s at' :: nd)
def sRawAt (l : Nat) (st : Stk) : Bool := l == 18 && !sAlien (sPrep l st)
def sTop (st : Stk) : Bool := match st with
  | [] => false
  | (_, f) :: _ => f
def sEnd (l : Nat) (st : Stk) (nd : List Nd) : Stk × List Nd :=
  match sTail (sTop st) l st with
  | some r => (r, nd)
  | none => if l = 15 ∧ sAlien st = false then
      (match sStart 15 [] st nd with
        | (true, s, n) => (s.tail, n)
        | (false, s, n) => (s, n)) else (st, nd)
def sAdd (cs : List Int32) (st : Stk) (nd : List Nd) : List Nd := match nd with
  | [] => [(1, 0, st.length, false, cs, [])]
  | x :: r => if x.1 = 1 ∧ x.2.2.1 = st.length then (1, x.2.1, st.length, x.2.2.2.1, x.2.2.2.2.1 ++ cs, x.2.2.2.2.2) :: r else (1, 0, st.length, false, cs, []) :: x :: r
theorem sAdd_app (cs ds : List Int32) (st : Stk) (nd : List Nd) : sAdd ds st (sAdd cs st nd) = sAdd (cs ++ ds) st nd := by
  cases nd with
  | nil => simp [sAdd]
  | cons x r =>
    by_cases h : x.1 = 1 ∧ x.2.2.1 = st.length
    · simp [sAdd, h, List.append_assoc]
    · simp [sAdd, h]
def sCom (cs : List Int32) (st : Stk) (nd : List Nd) : List Nd := (2, 0, st.length, false, cs, []) :: nd
/-- the first place from p on, before n, where P holds; else n -/
def sFind (P : Nat → Bool) : Nat → Nat → Nat
  | 0, p => p
  | j + 1, p => if P p = true then p else sFind P j (p + 1)
theorem sFind_le (P : Nat → Bool) : ∀ (j p : Nat), p ≤ sFind P j p ∧ sFind P j p ≤ p + j
  | 0, p => by simp [sFind]
  | j + 1, p => by
    unfold sFind
    split
    · omega
    · have := sFind_le P j (p + 1)
      omega
theorem sFind_no (P : Nat → Bool) : ∀ (j p q : Nat), p ≤ q → q < sFind P j p → P q = false
  | 0, p, q, h1, h2 => by simp [sFind] at h2; omega
  | j + 1, p, q, h1, h2 => by
    unfold sFind at h2
    split at h2
    · omega
    · rename_i h
      by_cases e : q = p
      · subst e; simpa using h
      · exact sFind_no P j (p + 1) q (by omega) h2
theorem sFind_at (P : Nat → Bool) : ∀ (j p : Nat), sFind P j p < p + j → P (sFind P j p) = true
  | 0, p, h => by simp [sFind] at h
  | j + 1, p, h => by
    unfold sFind at h ⊢
    split
    · assumption
    · rename_i hp
      rw [if_neg hp] at h
      exact sFind_at P j (p + 1) (by omega)
/-- the characters from b to e -/
def sSeg (t : Nat → Int32) (b e : Nat) : List Int32 := (List.range (e - b)).map (fun i => t (b + i))
/-- the same with references put for what they stand for -/
def sRes (t : Nat → Int32) (e : Nat) : Nat → Nat → List Int32
  | 0, _ => []
  | j + 1, p => if p < e then (match sRef t p with
      | some (c, s) => if p + s ≤ e then nI c :: sRes t e j (p + s) else t p :: sRes t e j (p + 1)
      | none => t p :: sRes t e j (p + 1)) else []
def sVal (t : Nat → Int32) (b e : Nat) : List Int32 := sRes t e (e - b) b
theorem sRes_len (t : Nat → Int32) (e : Nat) : ∀ (j p : Nat), (sRes t e j p).length ≤ e - p
  | 0, p => by simp [sRes]
  | j + 1, p => by
    unfold sRes
    split
    · split
      · rename_i c s hr
        have := sRef_in hr
        split
        · have := sRes_len t e j (p + s)
          simp only [List.length_cons]
          omega
        · have := sRes_len t e j (p + 1)
          simp only [List.length_cons]
          omega
      · have := sRes_len t e j (p + 1)
        simp only [List.length_cons]
        omega
    · simp
