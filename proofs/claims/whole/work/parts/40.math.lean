/-! What both sides compute, on lists of bytes. -/
theorem tw_eq (p : Nat → Bool) : ∀ (t : List Nat) (i : Nat), i ≤ t.length → (∀ j, j < i → p (t.getD j 0) = true) → (i < t.length → p (t.getD i 0) = false) → (t.takeWhile p).length = i := by
  intro t
  induction t with
  | nil =>
    intro i hi _ _
    have : i = 0 := Nat.le_zero.mp hi
    subst this
    rfl
  | cons c l ih =>
    intro i hi h1 h2
    cases i with
    | zero =>
      have := h2 (Nat.succ_pos _)
      have e : p c = false := this
      rw [List.takeWhile_cons, e]
      rfl
    | succ i =>
      have e : p c = true := h1 0 (Nat.succ_pos _)
      rw [List.takeWhile_cons, e]
      show (l.takeWhile p).length + 1 = i + 1
      rw [ih i (Nat.le_of_succ_le_succ hi) (fun j hj => h1 (j + 1) (Nat.succ_lt_succ hj)) (fun h => h2 (Nat.succ_lt_succ h))]
abbrev zTw (p : Nat → Bool) (t : List Nat) : Nat := (t.takeWhile p).length
theorem tw_le (p : Nat → Bool) (t : List Nat) : zTw p t ≤ t.length := by
  induction t with
  | nil => exact Nat.le_refl _
  | cons c l ih =>
    unfold zTw
    rw [List.takeWhile_cons]
    split
    · show (l.takeWhile p).length + 1 ≤ l.length + 1
      exact Nat.succ_le_succ ih
    · exact Nat.zero_le _
theorem tw_at (p : Nat → Bool) : ∀ (t : List Nat) (j : Nat), j < zTw p t → p (t.getD j 0) = true := by
  intro t
  induction t with
  | nil => intro j hj; exact absurd hj (Nat.not_lt_zero _)
  | cons c l ih =>
    intro j hj
    unfold zTw at hj
    rw [List.takeWhile_cons] at hj
    split at hj
    · cases j with
      | zero => assumption
      | succ j => exact ih j (Nat.lt_of_succ_lt_succ hj)
    · exact absurd hj (Nat.not_lt_zero _)
theorem tw_end (p : Nat → Bool) : ∀ (t : List Nat), zTw p t < t.length → p (t.getD (zTw p t) 0) = false := by
  intro t
  induction t with
  | nil => intro h; exact absurd h (Nat.not_lt_zero _)
  | cons c l ih =>
    intro h
    by_cases e : p c = true
    · have e2 : zTw p (c :: l) = zTw p l + 1 := by
        unfold zTw
        rw [List.takeWhile_cons, e]
        rfl
      rw [e2] at h ⊢
      exact ih (Nat.lt_of_succ_lt_succ h)
    · have e2 : zTw p (c :: l) = 0 := by
        unfold zTw
        rw [List.takeWhile_cons, if_neg e]
        rfl
      rw [e2]
      exact (Bool.not_eq_true _).mp e
theorem tw_all {p : Nat → Bool} {t : List Nat} : zTw p t = t.length ↔ t.all p = true := by
  rw [List.all_eq_true]
  constructor
  · intro h c hc
    obtain ⟨i, hi, e⟩ := List.getElem_of_mem hc
    have := tw_at p t i (by omega)
    rw [List.getD_eq_getElem?_getD, List.getElem?_eq_getElem hi] at this
    rw [← e]
    exact this
  · intro h
    exact tw_eq p t t.length (Nat.le_refl _) (fun j hj => h _ (by
      rw [List.getD_eq_getElem?_getD, List.getElem?_eq_getElem hj]
      exact List.getElem_mem hj)) (fun h => absurd h (Nat.lt_irrefl _))
theorem getD_drop (t : List Nat) (i j : Nat) : (t.drop i).getD j 0 = t.getD (i + j) 0 := by
  rw [List.getD_eq_getElem?_getD, List.getD_eq_getElem?_getD, List.getElem?_drop]
theorem getD_take {t : List Nat} {i j : Nat} (h : j < i) : (t.take i).getD j 0 = t.getD j 0 := by
  rw [List.getD_eq_getElem?_getD, List.getD_eq_getElem?_getD, List.getElem?_take, if_pos h]
/-- bytes -/
def zOkc (c : Nat) : Bool := c == 10 || (Nat.ble 32 c && Nat.ble c 126)
def zSm (c : Nat) : Bool := Nat.ble 97 c && Nat.ble c 122
def zDg (c : Nat) : Bool := Nat.ble 48 c && Nat.ble c 57
def zNc (c : Nat) : Bool := zSm c || zDg c
def zSg (c : Nat) : Bool := zSm c || zDg c || c == 46 || c == 45 || c == 95
def zPg (c : Nat) : Bool := zSg c || c == 47
def zQc (c : Nat) : Bool := zSg c || c == 61 || c == 38 || c == 43
theorem zOkc_iff {c : Nat} : zOkc c = true ↔ c = 10 ∨ (32 ≤ c ∧ c ≤ 126) := by simp [zOkc]
theorem zSm_iff {c : Nat} : zSm c = true ↔ 97 ≤ c ∧ c ≤ 122 := by simp [zSm]
theorem zDg_iff {c : Nat} : zDg c = true ↔ 48 ≤ c ∧ c ≤ 57 := by simp [zDg]
theorem zNc_iff {c : Nat} : zNc c = true ↔ (97 ≤ c ∧ c ≤ 122) ∨ (48 ≤ c ∧ c ≤ 57) := by simp [zNc, zSm, zDg]
theorem zSg_iff {c : Nat} : zSg c = true ↔ (97 ≤ c ∧ c ≤ 122) ∨ (48 ≤ c ∧ c ≤ 57) ∨ c = 46 ∨ c = 45 ∨ c = 95 := by simp [zSg, zSm, zDg, or_assoc]
theorem zPg_iff {c : Nat} : zPg c = true ↔ (97 ≤ c ∧ c ≤ 122) ∨ (48 ≤ c ∧ c ≤ 57) ∨ c = 46 ∨ c = 45 ∨ c = 95 ∨ c = 47 := by simp [zPg, zSg, zSm, zDg, or_assoc]
theorem zQc_iff {c : Nat} : zQc c = true ↔ (97 ≤ c ∧ c ≤ 122) ∨ (48 ≤ c ∧ c ≤ 57) ∨ c = 46 ∨ c = 45 ∨ c = 95 ∨ c = 61 ∨ c = 38 ∨ c = 43 := by simp [zQc, zSg, zSm, zDg, or_assoc]
/-- how far a NAME goes -/
def zNk : List Nat → Nat
  | [] => 0
  | c :: l => if zSm c then min 8 (1 + zTw zNc l) else 0
def zNm (t : List Nat) : Bool := !t.isEmpty && zNk t == t.length
/-- split at a byte -/
def zSpl (c : Nat) : List Nat → List (List Nat)
  | [] => [[]]
  | x :: l => if x = c then [] :: zSpl c l else match zSpl c l with
    | [] => [[x]]
    | s :: r => (x :: s) :: r
/-- an ADDRESS: site, segments, query (with its ?), mark (with its #) -/
abbrev zA : Type := List Nat × List (List Nat) × List Nat × List Nat
def zFlat (s : List (List Nat)) : List Nat := s.flatMap (fun x => 47 :: x)
def zPl (a : zA) : List Nat := [47, 47] ++ a.1 ++ zFlat a.2.1 ++ a.2.2.1
/-- a segment comes -/
def zSt (s : List (List Nat)) (x : List Nat) : List (List Nat) := if x = [46, 46] then s.dropLast else if x = [46] then s else s ++ [x]
def zLast (s : List (List Nat)) (x : List Nat) : List (List Nat) := if x = [46, 46] then s.dropLast ++ [[]] else if x = [46] then s ++ [[]] else s ++ [x]
def zTk (s : List (List Nat)) : List (List Nat) → List (List Nat)
  | [] => s
  | [x] => zLast s x
  | x :: y :: r => zTk (zSt s x) (y :: r)
def zPath (s : List (List Nat)) (t : List Nat) : Option (List (List Nat)) := if t.all zPg && (zSpl 47 t).all (fun x => Nat.ble x.length 12) && Nat.ble (zTk s (zSpl 47 t)).length 6 then some (zTk s (zSpl 47 t)) else none
def zNo (k : Nat) (c : Nat) : Bool := !(c == k)
def zQok (q : List Nat) : Bool := q.isEmpty || (Nat.ble q.length 41 && (q.drop 1).all zQc)
def zMok (m : List Nat) : Bool := m.isEmpty || zNm (m.drop 1)
def zHq (t : List Nat) : List Nat := t.take (zTw (zNo 35) t)
def zMk (t : List Nat) : List Nat := t.drop (zTw (zNo 35) t)
def zHd (t : List Nat) : List Nat := (zHq t).take (zTw (zNo 63) (zHq t))
def zQy (t : List Nat) : List Nat := (zHq t).drop (zTw (zNo 63) (zHq t))
/-- the ADDRESS that a REFERENCE is against another one -/
def zRead (t : List Nat) (b : zA) : Option zA :=
  if !(zQok (zQy t) && zMok (zMk t)) then none
  else if (zHd t).isEmpty then some (b.1, b.2.1, if (zQy t).isEmpty then b.2.2.1 else zQy t, zMk t)
  else if (zHd t).take 2 = [47, 47] then
    let r := (zHd t).drop 2
    if zNm (r.take (zTw (zNo 47) r)) then (zPath [] (r.drop (zTw (zNo 47) r + 1))).map (fun p => (r.take (zTw (zNo 47) r), p, zQy t, zMk t)) else none
  else if (zHd t).take 1 = [47] then (zPath [] ((zHd t).drop 1)).map (fun p => (b.1, p, zQy t, zMk t))
  else (zPath b.2.1.dropLast (zHd t)).map (fun p => (b.1, p, zQy t, zMk t))
/-- what an ADDRESS is like -/
def zWf (a : zA) : Prop := zNm a.1 = true ∧ a.2.1 ≠ [] ∧ a.2.1.length ≤ 6 ∧ (∀ s ∈ a.2.1, s.length ≤ 12 ∧ s.all zSg = true ∧ s ≠ [46] ∧ s ≠ [46, 46]) ∧ (a.2.2.1 = [] ∨ ∃ q, a.2.2.1 = 63 :: q ∧ q.length ≤ 40 ∧ q.all zQc = true) ∧ (a.2.2.2 = [] ∨ ∃ m, a.2.2.2 = 35 :: m ∧ zNm m = true)
