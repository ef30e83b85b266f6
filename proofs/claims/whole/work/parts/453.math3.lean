/-! How the model reads a REFERENCE. -/
def zTq (R : List Nat) : List Nat := match R with
  | [] => []
  | c :: r => if c = 63 then 63 :: r.takeWhile zQc else []
def zTail (R : List Nat) : Option (List Nat × List Nat) :=
  if 41 < (zTq R).length then none else match R.drop (zTq R).length with
    | [] => some (zTq R, [])
    | c :: m => if c = 35 && zNm m then some (zTq R, 35 :: m) else none
def zHead (P : List Nat) (B : zA) : Option (List Nat × List (List Nat)) :=
  if P.take 2 = [47, 47] then
    if zNm ((P.drop 2).take (zTw zNc (P.drop 2))) then
      match (P.drop 2).drop (zTw zNc (P.drop 2)) with
      | [] => some ((P.drop 2).take (zTw zNc (P.drop 2)), [[]])
      | c :: r => if c = 47 then (zPath [] r).map (fun p => ((P.drop 2).take (zTw zNc (P.drop 2)), p)) else none
    else none
  else if P.take 1 = [47] then (zPath [] (P.drop 1)).map (fun p => (B.1, p))
  else if P = [] then some (B.1, B.2.1)
  else (zPath B.2.1.dropLast P).map (fun p => (B.1, p))
def zRefer (t : List Nat) (B : zA) : Option zA :=
  (zHead (t.take (zTw zPg t)) B).bind fun s => (zTail (t.drop (zTw zPg t))).map fun q => (s.1, s.2, if t.take (zTw zPg t) = [] ∧ q.1 = [] then B.2.2.1 else q.1, q.2)
theorem zHq_mk (t : List Nat) : t = zHd t ++ (zQy t ++ zMk t) := by
  have h1 : zHq t ++ zMk t = t := List.take_append_drop _ _
  have h2 : zHd t ++ zQy t = zHq t := List.take_append_drop _ _
  rw [← List.append_assoc, h2, h1]
theorem zHd_no (t : List Nat) : ∀ c ∈ zHd t, c ≠ 63 ∧ c ≠ 35 := by
  intro c hc
  refine ⟨zNo_iff.mp ((tw_split (p := zNo 63) (t := zHq t)).2.1 c hc), ?_⟩
  have : c ∈ zHq t := List.mem_of_mem_take hc
  exact zNo_iff.mp ((tw_split (p := zNo 35) (t := t)).2.1 c this)
theorem zQy_no (t : List Nat) : 35 ∉ zQy t := by
  intro hc
  have : (35 : Nat) ∈ zHq t := List.mem_of_mem_drop hc
  exact zNo_iff.mp ((tw_split (p := zNo 35) (t := t)).2.1 _ this) rfl
theorem all_app {p : Nat → Bool} {x y : List Nat} : (x ++ y).all p = true ↔ x.all p = true ∧ y.all p = true := by simp
/-- what stands behind the path -/
theorem zTail_eq {Q M : List Nat} (hQ : Q = [] ∨ ∃ l, Q = 63 :: l) (hn : 35 ∉ Q) (hM : M = [] ∨ ∃ l, M = 35 :: l) : zTail (Q ++ M) = if (zQok Q && zMok M) = true then some (Q, M) else none := by
  rcases hQ with rfl | ⟨q, rfl⟩
  · rcases hM with rfl | ⟨m, rfl⟩
    · rfl
    · show zTail (35 :: m) = if (true && zMok (35 :: m)) = true then some ([], 35 :: m) else none
      unfold zTail
      have : zTq (35 :: m) = [] := rfl
      rw [this]
      show (if (35 : Nat) = 35 && zNm m then some ([], 35 :: m) else none) = if (true && zMok (35 :: m)) = true then some ([], 35 :: m) else none
      simp [zMok]
  · have e0 : zTq (63 :: q ++ M) = 63 :: (q ++ M).takeWhile zQc := rfl
    have hqd : (63 :: q).drop 1 = q := rfl
    by_cases hq : q.all zQc = true
    · have e1 : (q ++ M).takeWhile zQc = q := by
        rw [List.takeWhile_append_of_pos (List.all_eq_true.mp hq)]
        rcases hM with rfl | ⟨m, rfl⟩
        · simp
        · rw [List.takeWhile_cons, show zQc 35 = false from by decide]; simp
      rw [e1] at e0
      unfold zTail
      rw [e0]
      have e2 : zQok (63 :: q) = Nat.ble (63 :: q).length 41 := by
        unfold zQok
        rw [hqd, hq]; simp
      rw [e2]
      by_cases hl : 41 < (63 :: q).length
      · rw [if_pos hl, if_neg]
        intro z
        have := Nat.le_of_ble_eq_true (Bool.and_eq_true_iff.mp z).1
        omega
      · rw [if_neg hl, show Nat.ble (63 :: q).length 41 = true from Nat.ble_eq_true_of_le (by omega), Bool.true_and, show (63 :: q ++ M).drop (63 :: q).length = M from List.drop_left]
        rcases hM with rfl | ⟨m, rfl⟩
        · rfl
        · simp [zMok]
    · have hf : (zQok (63 :: q) && zMok M) = true → False := fun z => by
        have z1 := (Bool.and_eq_true_iff.mp z).1
        unfold zQok at z1
        rw [hqd] at z1
        simp only [List.isEmpty_cons, Bool.false_or, Bool.and_eq_true] at z1
        exact hq z1.2
      rw [if_neg hf]
      unfold zTail
      rw [e0]
      split
      · rfl
      · have hlt : zTw zQc q < q.length := Nat.lt_of_le_of_ne (tw_le _ _) (fun z => hq (tw_all.mp z))
        have e1 : (q ++ M).takeWhile zQc = q.takeWhile zQc := by
          rw [List.takeWhile_append]
          rw [if_neg (Nat.ne_of_lt hlt)]
        rw [e1]
        have e2 : (63 :: q ++ M).drop (63 :: q.takeWhile zQc).length = q.drop (zTw zQc q) ++ M := by
          show (q ++ M).drop (zTw zQc q) = _
          rw [List.drop_append_of_le_length (Nat.le_of_lt hlt)]
        rw [e2, List.drop_eq_getElem_cons hlt]
        have hne : q[zTw zQc q] ≠ 35 := fun z => hn (List.mem_cons_of_mem _ (z ▸ List.getElem_mem hlt))
        show (if (q[zTw zQc q] = 35 && zNm _) = true then _ else none) = none
        rw [if_neg]
        simp [hne]
theorem zPath_pg {s p : List (List Nat)} {t : List Nat} (h : zPath s t = some p) : t.all zPg = true := by
  rw [zPath_eq] at h
  by_cases e : zPok s t = true
  · unfold zPok at e
    rw [Bool.and_eq_true, Bool.and_eq_true] at e
    exact e.1.1
  · rw [if_neg e] at h; cases h
theorem zPath_none {s : List (List Nat)} {t : List Nat} (h : ¬ t.all zPg = true) : zPath s t = none := by
  cases e : zPath s t with
  | none => rfl
  | some p => exact absurd (zPath_pg e) h
theorem all_nc_pg {x : List Nat} (h : x.all zNc = true) : x.all zPg = true := by
  rw [List.all_eq_true] at h ⊢
  exact fun c hc => zSg_pg (zNc_sg (h c hc))
/-- a head of other bytes is read by none -/
theorem zRead_bad {t : List Nat} {B : zA} (h : ¬ (zHd t).all zPg = true) : zRead t B = none := by
  by_cases h1 : (zQok (zQy t) && zMok (zMk t)) = true
  · have h2 : (zHd t).isEmpty = false := by
      cases e : zHd t with
      | nil => rw [e] at h; exact absurd rfl h
      | cons c l => rfl
    rw [zRead_3 h1 h2]
    by_cases c2 : (zHd t).take 2 = [47, 47]
    · rw [if_pos c2]
      split
      · next h4 =>
        rw [zPath_none]
        · rfl
        · intro z
          apply h
          have e1 : zHd t = [47, 47] ++ (zHd t).drop 2 := by rw [← c2]; exact (List.take_append_drop _ _).symm
          have sp := tw_split (p := zNo 47) (t := (zHd t).drop 2)
          rw [e1, all_app]
          refine ⟨by decide, ?_⟩
          rw [sp.1, all_app]
          refine ⟨all_nc_pg (zNm_all h4).2.2, ?_⟩
          rcases sp.2.2 with e | ⟨c, l, e, e2⟩
          · rw [e]; rfl
          · have e3 : ((zHd t).drop 2).drop (zTw (zNo 47) ((zHd t).drop 2) + 1) = l := by
              rw [← List.drop_drop, e]; rfl
            rw [e3] at z
            rw [e, List.all_cons, z, zNo_f.mp e2]; rfl
      · rfl
    · rw [if_neg c2]
      by_cases c1 : (zHd t).take 1 = [47]
      · rw [if_pos c1, zPath_none]
        · rfl
        · intro z
          apply h
          have e1 : zHd t = [47] ++ (zHd t).drop 1 := by rw [← c1]; exact (List.take_append_drop _ _).symm
          rw [e1, all_app]
          exact ⟨by decide, z⟩
      · rw [if_neg c1, zPath_none h]; rfl
  · unfold zRead
    rw [(Bool.not_eq_true _).mp h1]; rfl
theorem zTail_bad {c : Nat} {l : List Nat} (h1 : c ≠ 63) (h2 : c ≠ 35) : zTail (c :: l) = none := by
  unfold zTail
  have : zTq (c :: l) = [] := if_neg h1
  rw [this]
  show (if (c = 35 && zNm l) = true then some ([], 35 :: l) else none) = none
  rw [if_neg]
  simp [h2]
theorem bind_none' {α β : Type} (x : Option α) : (x.bind fun _ => (none : Option β)) = none := by cases x <;> rfl
theorem zHead_eq {P : List Nat} {B : zA} (hne : P ≠ []) : zHead P B = if P.take 2 = [47, 47] then (if zNm ((P.drop 2).take (zTw (zNo 47) (P.drop 2))) = true then (zPath [] ((P.drop 2).drop (zTw (zNo 47) (P.drop 2) + 1))).map (fun p => ((P.drop 2).take (zTw (zNo 47) (P.drop 2)), p)) else none) else if P.take 1 = [47] then (zPath [] (P.drop 1)).map (fun p => (B.1, p)) else (zPath B.2.1.dropLast P).map (fun p => (B.1, p)) := by
  unfold zHead
  by_cases c2 : P.take 2 = [47, 47]
  · rw [if_pos c2, if_pos c2]
    generalize P.drop 2 = r
    have sp := tw_split (p := zNo 47) (t := r)
    have sq := tw_split (p := zNc) (t := r)
    by_cases hn : zNm (r.take (zTw (zNo 47) r)) = true
    · have ha := (zNm_all hn).2.2
      have e : zTw zNc r = zTw (zNo 47) r := by
        have hl : (r.take (zTw (zNo 47) r)).length = zTw (zNo 47) r := by rw [List.length_take]; have := tw_le (zNo 47) r; omega
        conv => lhs; rw [sp.1]
        rw [tw_app (List.all_eq_true.mp ha) (sp.2.2.imp id (fun ⟨h, l, e, e2⟩ => ⟨h, l, e, by rw [zNo_f.mp e2]; decide⟩)), hl]
      rw [e, if_pos hn, if_pos hn]
      rcases sp.2.2 with e1 | ⟨h, l, e1, e2⟩
      · rw [e1]
        have : r.drop (zTw (zNo 47) r + 1) = [] := by rw [← List.drop_drop, e1]; rfl
        rw [this]
        rfl
      · have : r.drop (zTw (zNo 47) r + 1) = l := by rw [← List.drop_drop, e1]; rfl
        rw [this, e1]
        show (if h = 47 then _ else none) = _
        rw [if_pos (zNo_f.mp e2)]
    · rw [if_neg hn]
      by_cases hm : zNm (r.take (zTw zNc r)) = true
      · rw [if_pos hm]
        have key : ∀ y, (y = [] ∨ ∃ l, y = 47 :: l) → r = r.take (zTw zNc r) ++ y → False := by
          intro y hy e
          have : zTw (zNo 47) r = zTw zNc r := by
            have hl : (r.take (zTw zNc r)).length = zTw zNc r := by rw [List.length_take]; have := tw_le zNc r; omega
            conv => lhs; rw [e]
            rw [tw_app (fun a ha => zNo_iff.mpr (fun z => by have := sq.2.1 a ha; rw [z] at this; exact absurd this (by decide))) (hy.imp id (fun ⟨l, e⟩ => ⟨47, l, e, by decide⟩)), hl]
          rw [this] at hn
          exact hn hm
        rcases sq.2.2 with e1 | ⟨h, l, e1, e2⟩
        · exact absurd (key [] (Or.inl rfl) (by conv => lhs; rw [sq.1, e1])) id
        · rw [e1]
          show (if h = 47 then _ else none) = none
          rw [if_neg]
          rintro rfl
          exact key (47 :: l) (Or.inr ⟨l, rfl⟩) (by conv => lhs; rw [sq.1, e1])
      · rw [if_neg hm]
  · rw [if_neg c2, if_neg c2, if_neg hne]
/-- both readings are the same -/
theorem zRefer_eq {t : List Nat} {B : zA} : zRefer t B = zRead t B := by
  have ht := zHq_mk t
  have hno := zHd_no t
  by_cases ha : (zHd t).all zPg = true
  · have hr : zQy t ++ zMk t = [] ∨ ∃ h l, zQy t ++ zMk t = h :: l ∧ zPg h = false := by
      rcases zQy_hd (t := t) with e | ⟨l, e⟩
      · rw [e]
        rcases zMk_hd (t := t) with e | ⟨l, e⟩
        · rw [e]; exact Or.inl rfl
        · rw [e]; exact Or.inr ⟨35, l, rfl, by decide⟩
      · rw [e]; exact Or.inr ⟨63, l ++ zMk t, rfl, by decide⟩
    have e1 : zTw zPg t = (zHd t).length := by
      exact (congrArg (zTw zPg) ht).trans (tw_app (List.all_eq_true.mp ha) hr)
    have e2 : t.take (zTw zPg t) = zHd t := by
      rw [e1]
      exact (congrArg (List.take (zHd t).length) ht).trans List.take_left
    have e3 : t.drop (zTw zPg t) = zQy t ++ zMk t := by
      rw [e1]
      exact (congrArg (List.drop (zHd t).length) ht).trans List.drop_left
    unfold zRefer
    rw [e2, e3, zTail_eq zQy_hd (zQy_no t) zMk_hd]
    by_cases h1 : (zQok (zQy t) && zMok (zMk t)) = true
    · rw [if_pos h1]
      by_cases h2 : zHd t = []
      · have : zRead t B = some (B.1, B.2.1, if (zQy t).isEmpty then B.2.2.1 else zQy t, zMk t) := by
          unfold zRead
          rw [h1, h2]; rfl
        rw [this]
        have hh : zHead (zHd t) B = some (B.1, B.2.1) := by rw [h2]; rfl
        rw [hh]
        show some (B.1, B.2.1, if zHd t = [] ∧ zQy t = [] then B.2.2.1 else zQy t, zMk t) = _
        congr 4
        by_cases z : zQy t = []
        · rw [if_pos ⟨h2, z⟩, z]; rfl
        · rw [if_neg (fun w => z w.2), if_neg]
          intro w; exact z (List.isEmpty_iff.mp w)
      · rw [zRead_3 h1 (by cases e : zHd t with
          | nil => exact absurd e h2
          | cons c l => rfl), zHead_eq h2]
        have nn : ¬ (zHd t = [] ∧ zQy t = []) := fun w => h2 w.1
        split
        · split
          · cases zPath [] (((zHd t).drop 2).drop (zTw (zNo 47) ((zHd t).drop 2) + 1)) with
            | none => rfl
            | some p => show some (_, _, (if zHd t = [] ∧ zQy t = [] then B.2.2.1 else zQy t), zMk t) = _; rw [if_neg nn]; rfl
          · rfl
        · split
          · cases zPath [] ((zHd t).drop 1) with
            | none => rfl
            | some p => show some (_, _, (if zHd t = [] ∧ zQy t = [] then B.2.2.1 else zQy t), zMk t) = _; rw [if_neg nn]; rfl
          · cases zPath B.2.1.dropLast (zHd t) with
            | none => rfl
            | some p => show some (_, _, (if zHd t = [] ∧ zQy t = [] then B.2.2.1 else zQy t), zMk t) = _; rw [if_neg nn]; rfl
    · rw [if_neg h1]
      unfold zRead
      rw [(Bool.not_eq_true _).mp h1]
      exact bind_none' _
  · rw [zRead_bad ha]
    have hlt : zTw zPg (zHd t) < (zHd t).length := Nat.lt_of_le_of_ne (tw_le _ _) (fun z => ha (tw_all.mp z))
    have e1 : zTw zPg t = zTw zPg (zHd t) := by
      have : zTw zPg (zHd t ++ (zQy t ++ zMk t)) = zTw zPg (zHd t) := by
        unfold zTw
        rw [List.takeWhile_append, if_neg (Nat.ne_of_lt hlt)]
      rw [← ht] at this
      exact this
    have e3 : t.drop (zTw zPg t) = (zHd t)[zTw zPg (zHd t)] :: ((zHd t).drop (zTw zPg (zHd t) + 1) ++ (zQy t ++ zMk t)) := by
      rw [e1]
      refine (congrArg (List.drop (zTw zPg (zHd t))) ht).trans ?_
      rw [List.drop_append_of_le_length (Nat.le_of_lt hlt), List.drop_eq_getElem_cons hlt]
      rfl
    have hm := hno _ (List.getElem_mem hlt)
    unfold zRefer
    rw [e3, zTail_bad hm.1 hm.2]
    exact bind_none' _
