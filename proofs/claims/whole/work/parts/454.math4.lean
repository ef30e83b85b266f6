/-! The desk as lists of bytes: what both sides do. -/
/-- an ANSWER: at, age, name and value of the cookie, to, open, body -/
abbrev zAn : Type := zA × Nat × (List Nat × List Nat) × Option zA × Bool × List Nat
/-- a COOKIE: site, name, value -/
abbrev zCk : Type := List Nat × List Nat × List Nat
/-- what is KEPT: an ANSWER and its TIME -/
abbrev zKe : Type := zAn × Nat
/-- the FIELDS that were read: age, cookie, to, open -/
abbrev zFe : Type := Option Nat × (List Nat × List Nat) × Option zA × Bool
/-- answers, cookies, kept, clock -/
abbrev zDD : Type := List zAn × List zCk × List zKe × Nat
/-- requests, the last one's address, what went with it -/
abbrev zRR : Type := Nat × Option zA × List Nat
/-- what came, from where, the first mark, how many were followed, was it kept -/
abbrev zCC : Type := zAn × Option zA × List Nat × Nat × Bool
/-- the tape, what was written, the base -/
abbrev zTT : Type := List Nat × List Nat × zA
abbrev zSS : Type := zTT × zDD × zRR × zCC
def zHome : zA := ([104, 111, 109, 101], [[]], [], [])
def zEmp : zAn := (zHome, 0, ([], []), none, false, [])
def zS0 : zSS := (([], [], zHome), ([], [], [], 0), (0, none, []), (zEmp, none, [], 0, false))
theorem zHome_wf : zWf zHome := ⟨by decide, by decide, by decide, by decide, Or.inl rfl, Or.inl rfl⟩
/-- the first place of what is looked for, or the length -/
def zFi {α : Type} (p : α → Bool) (xs : List α) : Nat := (xs.takeWhile (fun x => !p x)).length
theorem fi_nil {α : Type} {p : α → Bool} : zFi p [] = 0 := rfl
theorem fi_cons {α : Type} {p : α → Bool} {x : α} {l : List α} : zFi p (x :: l) = if p x = true then 0 else zFi p l + 1 := by
  unfold zFi
  rw [List.takeWhile_cons]
  cases p x <;> rfl
theorem fi_le {α : Type} {p : α → Bool} : ∀ {xs : List α}, zFi p xs ≤ xs.length := by
  intro xs
  induction xs with
  | nil => exact Nat.le_refl _
  | cons x l ih => rw [fi_cons]; split <;> simp; omega
theorem fi_eq {α : Type} {p : α → Bool} : ∀ {xs : List α} {i : Nat}, i ≤ xs.length → (∀ j (h : j < xs.length), j < i → p xs[j] = false) → (∀ h : i < xs.length, p xs[i] = true) → zFi p xs = i := by
  intro xs
  induction xs with
  | nil => intro i hi _ _; exact (Nat.le_zero.mp hi).symm
  | cons x l ih =>
    intro i hi h1 h2
    rw [fi_cons]
    cases i with
    | zero => exact if_pos (h2 (Nat.succ_pos _))
    | succ i =>
      have := h1 0 (Nat.succ_pos _) (Nat.succ_pos _)
      simp only [List.getElem_cons_zero] at this
      rw [this, if_neg (by decide), ih (Nat.le_of_succ_le_succ hi) (fun j hj hji => h1 (j + 1) (Nat.succ_lt_succ hj) (Nat.succ_lt_succ hji)) (fun h => h2 (Nat.succ_lt_succ h))]
theorem fi_at {α : Type} {p : α → Bool} : ∀ {xs : List α} (h : zFi p xs < xs.length), p xs[zFi p xs] = true := by
  intro xs
  induction xs with
  | nil => intro h; exact absurd h (Nat.not_lt_zero _)
  | cons x l ih =>
    intro h
    by_cases e : p x = true
    · have : zFi p (x :: l) = 0 := by rw [fi_cons, if_pos e]
      simp [this, e]
    · have e2 : zFi p (x :: l) = zFi p l + 1 := by rw [fi_cons, if_neg e]
      have h' : zFi p l < l.length := by rw [e2] at h; exact Nat.lt_of_succ_lt_succ h
      have := ih h'
      simp [e2, this]
theorem fi_no {α : Type} {p : α → Bool} : ∀ {xs : List α} {j : Nat} (h : j < xs.length), j < zFi p xs → p xs[j] = false := by
  intro xs
  induction xs with
  | nil => intro j h; exact absurd h (Nat.not_lt_zero _)
  | cons x l ih =>
    intro j h hj
    rw [fi_cons] at hj
    split at hj
    · exact absurd hj (Nat.not_lt_zero _)
    · next e =>
      cases j with
      | zero => simpa using e
      | succ j => exact ih (Nat.lt_of_succ_lt_succ h) (Nat.lt_of_succ_lt_succ hj)
/-- same place -/
def zSp' (p : List Nat) (a : zA) : Bool := zPl a == p
def zAsp (p : List Nat) (a : zAn) : Bool := zPl a.1 == p
def zKsp (p : List Nat) (k : zKe) : Bool := zPl k.1.1 == p
def zCsp (s n : List Nat) (c : zCk) : Bool := c.1 == s && c.2.1 == n
def zJput (cs : List zCk) (c : zCk) : List zCk := if zFi (zCsp c.1 c.2.1) cs < cs.length then cs.set (zFi (zCsp c.1 c.2.1) cs) c else if cs.length < 20 then cs ++ [c] else cs
def zT1 (site : List Nat) (acc : List Nat) (c : zCk) : List Nat := if c.1 = site then (if acc = [] then [] else acc ++ [59]) ++ c.2.1 ++ [61] ++ c.2.2 else acc
def zTell (site : List Nat) (cs : List zCk) : List Nat := cs.foldl (zT1 site) []
/-- how many there are of a site; the last one's place -/
def zHad (site : List Nat) (cs : List zCk) : Nat := (cs.filter (fun c => c.1 == site)).length
def zLst (site : List Nat) : List zCk → Nat → Option Nat
  | _, 0 => none
  | cs, i + 1 => if (cs.getD i ([], [], [])).1 = site then some i else zLst site cs i
def zKput (ks : List zKe) (k : zKe) : List zKe := if zFi (zKsp (zPl k.1.1)) ks < ks.length then ks.eraseIdx (zFi (zKsp (zPl k.1.1)) ks) ++ [k] else if 8 ≤ ks.length then ks.eraseIdx 0 ++ [k] else ks ++ [k]
def zFresh (ks : List zKe) (p : List Nat) (clk : Nat) : Option zAn := match ks[zFi (zKsp p) ks]? with
  | none => none
  | some k => if k.2 ≤ clk then none else some k.1
def zReq (D : zDD) (R : zRR) (a : zA) : zDD × zRR × Option zAn := match D.1[zFi (zAsp (zPl a)) D.1]? with
  | none => (D, (R.1 + 1, some a, zTell a.1 D.2.1), none)
  | some x => ((D.1, if x.2.2.1.1 = [] then D.2.1 else zJput D.2.1 (a.1, x.2.2.1.1, x.2.2.1.2), if x.2.1 = 0 then D.2.2.1 else zKput D.2.2.1 (x, D.2.2.2 + x.2.1), D.2.2.2), (R.1 + 1, some a, zTell a.1 D.2.1), some x)
def zAsk (D : zDD) (R : zRR) (a : zA) : zDD × zRR × Option zAn × Bool := match zFresh D.2.2.1 (zPl a) D.2.2.2 with
  | some x => (D, R, some x, true)
  | none => ((zReq D R a).1, (zReq D R a).2.1, (zReq D R a).2.2, false)
def zToOf (x : Option zAn) : Option zA := x.bind (fun y => y.2.2.2.1)
/-- n more may be followed: desk, requests, what came, from where, how many were followed, was it kept -/
def zGoo : Nat → zDD → zRR → zA → zDD × zRR × zAn × zA × Nat × Bool
  | 0, D, R, a => ((zAsk D R a).1, (zAsk D R a).2.1, (if (zToOf (zAsk D R a).2.2.1).isNone then (zAsk D R a).2.2.1.getD zEmp else zEmp), a, 0, (zAsk D R a).2.2.2)
  | n + 1, D, R, a => match zToOf (zAsk D R a).2.2.1 with
    | none => ((zAsk D R a).1, (zAsk D R a).2.1, (zAsk D R a).2.2.1.getD zEmp, a, 0, (zAsk D R a).2.2.2)
    | some b => ((zGoo n (zAsk D R a).1 (zAsk D R a).2.1 b).1, (zGoo n (zAsk D R a).1 (zAsk D R a).2.1 b).2.1, (zGoo n (zAsk D R a).1 (zAsk D R a).2.1 b).2.2.1, (zGoo n (zAsk D R a).1 (zAsk D R a).2.1 b).2.2.2.1, (zGoo n (zAsk D R a).1 (zAsk D R a).2.1 b).2.2.2.2.1 + 1, (zGoo n (zAsk D R a).1 (zAsk D R a).2.1 b).2.2.2.2.2)
/-- one FIELD of a SERVER TEXT for the address A -/
def zField (x : List Nat) (A : zA) (F : zFe) : Option zFe :=
  if x = [111, 112, 101, 110] then (if F.2.2.2 = true then none else some (F.1, F.2.1, F.2.2.1, true))
  else if x.take 4 = [97, 103, 101, 61] then (if F.1.isSome || !zNu (x.drop 4) then none else some (some (zVal (x.drop 4)), F.2.1, F.2.2.1, F.2.2.2))
  else if x.take 7 = [99, 111, 111, 107, 105, 101, 61] then
    (if F.2.1.1 = [] ∧ zTw (zNo 58) (x.drop 7) < (x.drop 7).length ∧ zNm ((x.drop 7).take (zTw (zNo 58) (x.drop 7))) = true ∧ zNm ((x.drop 7).drop (zTw (zNo 58) (x.drop 7) + 1)) = true then some (F.1, ((x.drop 7).take (zTw (zNo 58) (x.drop 7)), (x.drop 7).drop (zTw (zNo 58) (x.drop 7) + 1)), F.2.2.1, F.2.2.2) else none)
  else if x.take 3 = [116, 111, 61] then (match F.2.2.1 with
    | some _ => none
    | none => (zRead (x.drop 3) A).map (fun a => (F.1, F.2.1, some a, F.2.2.2)))
  else none
def zNb (c : Nat) : Bool := !(c == 10 || c == 32)
/-- fields, from the blank at p on: the place that is wrong, or where they end -/
def zFls (A : zA) (t : List Nat) : Nat → Nat → zFe → Nat ⊕ (Nat × zFe)
  | 0, p, F => .inr (p, F)
  | n + 1, p, F => if p < t.length ∧ t.getD p 0 = 32 then (match zField ((t.drop (p + 1)).take (zTw zNb (t.drop (p + 1)))) A F with
      | none => .inl (p + 1)
      | some F' => zFls A t n (p + 1 + zTw zNb (t.drop (p + 1))) F') else .inr (p, F)
def zServe (t : List Nat) : Nat ⊕ zAn :=
  match (if (t.take (zTw zNb t)).take 2 = [47, 47] then zRead (t.take (zTw zNb t)) zHome else none) with
  | none => .inl 0
  | some A => if A.2.2.2 = [] then (match zFls A t (t.length + 1) (zTw zNb t) (none, ([], []), none, false) with
      | .inl p => .inl p
      | .inr (p, F) => if p = t.length then .inl p else if 1500 < t.length - (p + 1) then .inl (p + 1 + 1500) else .inr (A, F.1.getD 0, F.2.1, F.2.2.1, F.2.2.2, t.drop (p + 1))) else .inl 0
