def zDot (x : List Nat) : Bool := x == [46] || x == [46, 46]
theorem zDot_iff {x : List Nat} : zDot x = true ↔ x = [46] ∨ x = [46, 46] := by simp [zDot]
theorem zSt_no {s : List (List Nat)} {x : List Nat} (h : zDot x = false) : zSt s x = s ++ [x] := by
  unfold zSt
  rw [if_neg, if_neg]
  · intro e; rw [zDot_iff.mpr (Or.inl e)] at h; cases h
  · intro e; rw [zDot_iff.mpr (Or.inr e)] at h; cases h
def zLw (w : Bool) (xs : List (List Nat)) : Bool := match xs.getLast? with
  | none => w
  | some x => zDot x
theorem zLw_cons {w : Bool} {x : List Nat} {xs : List (List Nat)} : zLw w (x :: xs) = zLw (zDot x) xs := by
  cases xs with
  | nil => rfl
  | cons y l =>
    unfold zLw
    rw [List.getLast?_cons_cons]
    cases e : (y :: l).getLast? with
    | none => exact absurd (List.getLast?_eq_none_iff.mp e) (by simp)
    | some z => rfl
/-- what the model does at the end of a path -/
def zEnd (w : Bool) (s : List (List Nat)) : List (List Nat) := if w = true ∨ s = [] then s ++ [[]] else s
theorem zTk_fold : ∀ {xs s : List (List Nat)} {w : Bool}, xs ≠ [] → zEnd (zLw w xs) (xs.foldl zSt s) = zTk s xs := by
  intro xs
  induction xs with
  | nil => intro s w h; exact absurd rfl h
  | cons x l ih =>
    intro s w _
    cases l with
    | nil =>
      rw [zLw_cons]
      show zEnd (zDot x) (zSt s x) = zLast s x
      unfold zEnd zLast
      by_cases e1 : x = [46, 46]
      · rw [if_pos e1, if_pos (Or.inl (zDot_iff.mpr (Or.inr e1)))]
        unfold zSt
        rw [if_pos e1]
      · rw [if_neg e1]
        by_cases e2 : x = [46]
        · rw [if_pos e2, if_pos (Or.inl (zDot_iff.mpr (Or.inl e2)))]
          unfold zSt
          rw [if_neg e1, if_pos e2]
        · have hd : zDot x = false := (Bool.not_eq_true _).mp (fun z => (zDot_iff.mp z).elim e2 e1)
          rw [if_neg e2, zSt_no hd, hd, if_neg]
          intro z
          rcases z with z | z
          · cases z
          · simp at z
    | cons y l =>
      rw [zLw_cons]
      show zEnd (zLw (zDot x) (y :: l)) ((y :: l).foldl zSt (zSt s x)) = zTk (zSt s x) (y :: l)
      exact ih (by simp)
theorem fold_ok : ∀ {xs s : List (List Nat)}, (∀ x ∈ xs, zDot x = false) → xs.foldl zSt s = s ++ xs := by
  intro xs
  induction xs with
  | nil => intro s _; simp
  | cons x l ih =>
    intro s h
    rw [List.foldl_cons, zSt_no (h x List.mem_cons_self), ih (fun y hy => h y (List.mem_cons_of_mem _ hy))]
    simp
theorem zSok_dot {x : List Nat} (h : zSok x) : zDot x = false := (Bool.not_eq_true _).mp (fun z => (zDot_iff.mp z).elim h.2.2.1 h.2.2.2)
theorem spl_flat : ∀ {t : List Nat}, zFlat (zSpl 47 t) = 47 :: t := by
  intro t
  induction t with
  | nil => rfl
  | cons a l ih =>
    unfold zSpl
    by_cases e : a = 47
    · rw [if_pos e, zFlat_cons, ih, e]; rfl
    · rw [if_neg e]
      cases hs : zSpl 47 l with
      | nil => exact absurd hs spl_ne
      | cons s r =>
        rw [hs, zFlat_cons] at ih
        show zFlat ((a :: s) :: r) = _
        rw [zFlat_cons]
        have : s ++ zFlat r = l := (List.cons.inj ih).2
        show 47 :: a :: (s ++ zFlat r) = 47 :: a :: l
        rw [this]
theorem spl_hd {t x : List Nat} {r : List (List Nat)} (h : zSpl 47 t = x :: r) : t = x ++ zFlat r := by
  have := spl_flat (t := t)
  rw [h, zFlat_cons] at this
  exact (List.cons.inj this).2.symm
theorem flat_last {s : List (List Nat)} (h : s ≠ []) : (s.take (s.length - 1)).flatten.length + (s.getD (s.length - 1) []).length = s.flatten.length := by
  have hl : s.length - 1 < s.length := by have := List.length_pos_iff.mpr h; omega
  have e : s = s.take (s.length - 1) ++ [s.getD (s.length - 1) []] := by
    conv => lhs; rw [← List.take_append_drop (s.length - 1) s]
    congr 1
    rw [List.drop_eq_getElem_cons hl, List.getD_eq_getElem?_getD, List.getElem?_eq_getElem hl, List.drop_of_length_le (by omega)]
    rfl
  conv => rhs; rw [e]
  rw [List.flatten_append, List.length_append]
  simp
theorem fold_len : ∀ {xs s : List (List Nat)}, (xs.foldl zSt s).length ≤ s.length + xs.length ∧ (xs.foldl zSt s).flatten.length ≤ s.flatten.length + xs.flatten.length := by
  intro xs
  induction xs with
  | nil => intro s; exact ⟨Nat.le_refl _, Nat.le_refl _⟩
  | cons x l ih =>
    intro s
    have h1 : (zSt s x).length ≤ s.length + 1 ∧ (zSt s x).flatten.length ≤ s.flatten.length + x.length := by
      unfold zSt
      split
      · refine ⟨by rw [List.length_dropLast]; omega, ?_⟩
        by_cases hs : s = []
        · subst hs; simp
        · have e : s.flatten = s.dropLast.flatten ++ s.getLast hs := by
            conv => lhs; rw [← List.dropLast_concat_getLast hs]
            rw [List.flatten_append]; simp
          rw [e, List.length_append]; omega
      · split
        · exact ⟨by omega, by omega⟩
        · rw [List.length_append, List.flatten_append, List.length_append]
          simp
    obtain ⟨a, b⟩ := ih (s := zSt s x)
    rw [List.foldl_cons, List.flatten_cons, List.length_append, List.length_cons]
    omega
theorem flat_len {s : List (List Nat)} : (zFlat s).length = s.length + s.flatten.length := by
  induction s with
  | nil => rfl
  | cons x l ih => rw [zFlat_cons, List.length_append, ih, List.flatten_cons, List.length_append, List.length_cons, List.length_cons]; omega
/-- the path as the model finds it: pieces behind / and the rest -/
theorem path_split {P : List Nat} (h : P.all zPg = true) : (∀ x ∈ zSpl 47 P, x.all zSg = true) := spl_pg h
