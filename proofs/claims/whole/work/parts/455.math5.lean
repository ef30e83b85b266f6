theorem tell_take {site : List Nat} {cs : List zCk} {i : Nat} (h : i < cs.length) : zTell site (cs.take (i + 1)) = zT1 site (zTell site (cs.take i)) cs[i] := by
  unfold zTell
  rw [List.take_succ_eq_append_getElem h, List.foldl_append]
  rfl
theorem had_take {site : List Nat} {cs : List zCk} {i : Nat} (h : i < cs.length) : zHad site (cs.take (i + 1)) = zHad site (cs.take i) + if cs[i].1 = site then 1 else 0 := by
  unfold zHad
  rw [List.take_succ_eq_append_getElem h, List.filter_append, List.length_append]
  congr 1
  by_cases e : cs[i].1 = site <;> simp [e]
theorem lst_s {site : List Nat} {cs : List zCk} {i : Nat} (h : i < cs.length) : zLst site cs (i + 1) = if cs[i].1 = site then some i else zLst site cs i := by
  show (if (cs.getD i ([], [], [])).1 = site then some i else zLst site cs i) = _
  rw [List.getD_eq_getElem?_getD, List.getElem?_eq_getElem h]
  rfl
theorem lst_lt {site : List Nat} {cs : List zCk} : ∀ {n i : Nat}, zLst site cs n = some i → i < n := by
  intro n
  induction n with
  | zero => intro i h; cases h
  | succ n ih =>
    intro i h
    unfold zLst at h
    split at h
    · cases h; exact Nat.lt_succ_self _
    · exact Nat.lt_succ_of_lt (ih h)
/-- what the parts of a desk are like -/
def zNam (t : List Nat) : Prop := zNm t = true
def zAnW (a : zAn) : Prop := zWf a.1 ∧ a.2.1 ≤ 9999 ∧ ((a.2.2.1.1 = [] ∧ a.2.2.1.2 = []) ∨ (zNm a.2.2.1.1 = true ∧ zNm a.2.2.1.2 = true)) ∧ (∀ b, a.2.2.2.1 = some b → zWf b) ∧ a.2.2.2.2.2.length ≤ 1500 ∧ a.2.2.2.2.2.all zOkc = true
def zCkW (c : zCk) : Prop := zNm c.1 = true ∧ zNm c.2.1 = true ∧ zNm c.2.2 = true
def zDDW (D : zDD) : Prop := (∀ a ∈ D.1, zAnW a) ∧ D.1.length ≤ 12 ∧ D.1.Pairwise (fun a b => zPl a.1 ≠ zPl b.1) ∧ (∀ c ∈ D.2.1, zCkW c) ∧ D.2.1.length ≤ 20 ∧ (∀ k ∈ D.2.2.1, zAnW k.1 ∧ 1 ≤ k.2) ∧ D.2.2.1.length ≤ 8 ∧ D.2.2.1.Pairwise (fun a b => zPl a.1.1 ≠ zPl b.1.1)
theorem zEmp_w : zAnW zEmp := ⟨zHome_wf, by decide, Or.inl ⟨rfl, rfl⟩, (fun b h => by cases h), by decide, by decide⟩
theorem zJput_w {cs : List zCk} {c : zCk} (h : ∀ c ∈ cs, zCkW c) (hl : cs.length ≤ 20) (hc : zCkW c) : (∀ c' ∈ zJput cs c, zCkW c') ∧ (zJput cs c).length ≤ 20 := by
  unfold zJput
  split
  · refine ⟨fun c' h' => ?_, by rw [List.length_set]; exact hl⟩
    rcases List.mem_or_eq_of_mem_set h' with q | q
    · exact h c' q
    · rw [q]; exact hc
  · split
    · refine ⟨fun c' h' => ?_, by rw [List.length_append]; simp; omega⟩
      rcases List.mem_append.mp h' with q | q
      · exact h c' q
      · rw [List.mem_singleton.mp q]; exact hc
    · exact ⟨h, hl⟩
theorem pw_add {ks : List zKe} {k : zKe} (h : ks.Pairwise (fun a b => zPl a.1.1 ≠ zPl b.1.1)) (hn : ∀ a ∈ ks, zPl a.1.1 ≠ zPl k.1.1) : (ks ++ [k]).Pairwise (fun a b => zPl a.1.1 ≠ zPl b.1.1) := by
  rw [List.pairwise_append]
  exact ⟨h, List.pairwise_singleton _ _, fun a ha b hb => by rw [List.mem_singleton.mp hb]; exact hn a ha⟩
theorem fi_none {α : Type} {p : α → Bool} {xs : List α} (h : ¬ zFi p xs < xs.length) : ∀ x ∈ xs, p x = false := by
  intro x hx
  obtain ⟨i, hi, e⟩ := List.getElem_of_mem hx
  rw [← e]
  exact fi_no hi (by omega)
theorem erase_ne {ks : List zKe} {i : Nat} (hi : i < ks.length) (h : ks.Pairwise (fun a b => zPl a.1.1 ≠ zPl b.1.1)) : ∀ a ∈ ks.eraseIdx i, zPl a.1.1 ≠ zPl ks[i].1.1 := by
  intro a ha
  rw [List.mem_eraseIdx_iff_getElem] at ha
  obtain ⟨j, hj, hne, e⟩ := ha
  rw [List.pairwise_iff_getElem] at h
  rw [← e]
  rcases Nat.lt_or_ge j i with q | q
  · exact h j i _ _ q
  · exact (h i j hi hj (by omega)).symm
theorem zKput_w {ks : List zKe} {k : zKe} (h : ∀ k ∈ ks, zAnW k.1 ∧ 1 ≤ k.2) (hl : ks.length ≤ 8) (hp : ks.Pairwise (fun a b => zPl a.1.1 ≠ zPl b.1.1)) (hk : zAnW k.1 ∧ 1 ≤ k.2) : (∀ k' ∈ zKput ks k, zAnW k'.1 ∧ 1 ≤ k'.2) ∧ (zKput ks k).length ≤ 8 ∧ (zKput ks k).Pairwise (fun a b => zPl a.1.1 ≠ zPl b.1.1) := by
  unfold zKput
  split
  · next hi =>
    refine ⟨fun k' h' => ?_, ?_, pw_add (hp.sublist (List.eraseIdx_sublist _ _)) ?_⟩
    · rcases List.mem_append.mp h' with q | q
      · exact h k' ((List.eraseIdx_sublist _ _).subset q)
      · rw [List.mem_singleton.mp q]; exact hk
    · rw [List.length_append, List.length_eraseIdx_of_lt hi]; simp; omega
    · have e := fi_at hi
      have e2 : zPl ks[zFi (zKsp (zPl k.1.1)) ks].1.1 = zPl k.1.1 := eq_of_beq e
      exact fun a ha z => erase_ne hi hp a ha (z.trans e2.symm)
  · next hi =>
    have hn : ∀ a ∈ ks, zPl a.1.1 ≠ zPl k.1.1 := fun a ha z => by
      have := fi_none hi a ha
      unfold zKsp at this
      rw [z] at this
      simp at this
    split
    · refine ⟨fun k' h' => ?_, ?_, pw_add (hp.sublist (List.eraseIdx_sublist _ _)) (fun a ha => hn a ((List.eraseIdx_sublist _ _).subset ha))⟩
      · rcases List.mem_append.mp h' with q | q
        · exact h k' ((List.eraseIdx_sublist _ _).subset q)
        · rw [List.mem_singleton.mp q]; exact hk
      · rw [List.length_append, List.length_eraseIdx_of_lt (by omega)]; simp; omega
    · refine ⟨fun k' h' => ?_, ?_, pw_add hp hn⟩
      · rcases List.mem_append.mp h' with q | q
        · exact h k' q
        · rw [List.mem_singleton.mp q]; exact hk
      · rw [List.length_append]; simp; omega
theorem zReq_w {D : zDD} {R : zRR} {a : zA} (h : zDDW D) (ha : zWf a) : zDDW (zReq D R a).1 ∧ (∀ x, (zReq D R a).2.2 = some x → zAnW x) := by
  obtain ⟨h1, h2, h3, h4, h5, h6, h7, h8⟩ := h
  unfold zReq
  cases e : D.1[zFi (zAsp (zPl a)) D.1]? with
  | none => exact ⟨⟨h1, h2, h3, h4, h5, h6, h7, h8⟩, fun x hx => by cases hx⟩
  | some x =>
    have hx : x ∈ D.1 := List.mem_of_getElem? e
    have hw := h1 x hx
    refine ⟨⟨h1, h2, h3, ?_⟩, fun y hy => by cases hy; exact hw⟩
    have q1 : (∀ c ∈ (if x.2.2.1.1 = [] then D.2.1 else zJput D.2.1 (a.1, x.2.2.1.1, x.2.2.1.2)), zCkW c) ∧ (if x.2.2.1.1 = [] then D.2.1 else zJput D.2.1 (a.1, x.2.2.1.1, x.2.2.1.2)).length ≤ 20 := by
      split
      · exact ⟨h4, h5⟩
      · next hne =>
        rcases hw.2.2.1 with q | q
        · exact absurd q.1 hne
        · exact zJput_w h4 h5 ⟨ha.1, q.1, q.2⟩
    have q2 : (∀ k ∈ (if x.2.1 = 0 then D.2.2.1 else zKput D.2.2.1 (x, D.2.2.2 + x.2.1)), zAnW k.1 ∧ 1 ≤ k.2) ∧ (if x.2.1 = 0 then D.2.2.1 else zKput D.2.2.1 (x, D.2.2.2 + x.2.1)).length ≤ 8 ∧ (if x.2.1 = 0 then D.2.2.1 else zKput D.2.2.1 (x, D.2.2.2 + x.2.1)).Pairwise (fun a b => zPl a.1.1 ≠ zPl b.1.1) := by
      split
      · exact ⟨h6, h7, h8⟩
      · next hne => exact zKput_w h6 h7 h8 ⟨hw, by show 1 ≤ D.2.2.2 + x.2.1; omega⟩
    exact ⟨q1.1, q1.2, q2.1, q2.2.1, q2.2.2⟩
theorem zAsk_w {D : zDD} {R : zRR} {a : zA} (h : zDDW D) (ha : zWf a) : zDDW (zAsk D R a).1 ∧ (∀ x, (zAsk D R a).2.2.1 = some x → zAnW x) := by
  unfold zAsk
  cases e : zFresh D.2.2.1 (zPl a) D.2.2.2 with
  | none => exact zReq_w h ha
  | some x =>
    refine ⟨h, fun y hy => ?_⟩
    cases hy
    unfold zFresh at e
    cases e2 : D.2.2.1[zFi (zKsp (zPl a)) D.2.2.1]? with
    | none => rw [e2] at e; cases e
    | some k =>
      rw [e2] at e
      simp only at e
      split at e
      · cases e
      · cases e
        exact (h.2.2.2.2.2.1 k (List.mem_of_getElem? e2)).1
theorem zGoo_w : ∀ {n : Nat} {D : zDD} {R : zRR} {a : zA}, zDDW D → zWf a → zDDW (zGoo n D R a).1 ∧ zAnW (zGoo n D R a).2.2.1 ∧ zWf (zGoo n D R a).2.2.2.1 := by
  intro n
  induction n with
  | zero =>
    intro D R a h ha
    obtain ⟨h1, h2⟩ := zAsk_w (R := R) h ha
    refine ⟨h1, ?_, ha⟩
    unfold zGoo
    simp only
    split
    · cases e : (zAsk D R a).2.2.1 with
      | none => exact zEmp_w
      | some x => exact h2 x e
    · exact zEmp_w
  | succ n ih =>
    intro D R a h ha
    obtain ⟨h1, h2⟩ := zAsk_w (R := R) h ha
    unfold zGoo
    cases e : zToOf (zAsk D R a).2.2.1 with
    | none =>
      refine ⟨h1, ?_, ha⟩
      cases e : (zAsk D R a).2.2.1 with
      | none => exact zEmp_w
      | some x => exact h2 x e
    | some b =>
      have hb : zWf b := by
        unfold zToOf at e
        cases e2 : (zAsk D R a).2.2.1 with
        | none => rw [e2] at e; cases e
        | some x => rw [e2] at e; exact (h2 x e2).2.2.2.1 b e
      exact ih h1 hb
/-- what was read of a SERVER TEXT -/
def zFeW (F : zFe) : Prop := (∀ n, F.1 = some n → n ≤ 9999) ∧ ((F.2.1.1 = [] ∧ F.2.1.2 = []) ∨ (zNm F.2.1.1 = true ∧ zNm F.2.1.2 = true)) ∧ (∀ b, F.2.2.1 = some b → zWf b)
theorem zNu_val {t : List Nat} (h : zNu t = true) : zVal t ≤ 9999 := by
  unfold zNu at h
  simp only [Bool.and_eq_true] at h
  have h1 := Nat.le_of_ble_eq_true h.1.2
  have h2 := zVal_le t (fun c hc => (zDg_iff.mp (List.all_eq_true.mp h.2 c hc)).2)
  have : 10 ^ t.length ≤ 10 ^ 4 := Nat.pow_le_pow_right (by decide) h1
  omega
theorem zField_w {x : List Nat} {A : zA} {F F' : zFe} (hA : zWf A) (hF : zFeW F) (h : zField x A F = some F') : zFeW F' := by
  obtain ⟨f1, f2, f3⟩ := hF
  unfold zField at h
  split at h
  · split at h
    · cases h
    · cases h; exact ⟨f1, f2, f3⟩
  · split at h
    · split at h
      · cases h
      · next q =>
        cases h
        refine ⟨fun n hn => ?_, f2, f3⟩
        cases hn
        apply zNu_val
        cases e : zNu (x.drop 4) with
        | true => rfl
        | false => rw [e] at q; simp at q
    · split at h
      · split at h
        · next q => cases h; exact ⟨f1, Or.inr ⟨q.2.2.1, q.2.2.2⟩, f3⟩
        · cases h
      · split at h
        · split at h
          · cases h
          · cases e : zRead (x.drop 3) A with
            | none => rw [e] at h; cases h
            | some b =>
              rw [e] at h
              cases h
              exact ⟨f1, f2, fun c hc => by cases hc; exact zRead_wf hA e⟩
        · cases h
theorem zFls_w {A : zA} {t : List Nat} (hA : zWf A) : ∀ {n p : Nat} {F : zFe} {q : Nat} {F' : zFe}, zFeW F → zFls A t n p F = .inr (q, F') → zFeW F' := by
  intro n
  induction n with
  | zero => intro p F q F' hF h; cases h; exact hF
  | succ n ih =>
    intro p F q F' hF h
    unfold zFls at h
    split at h
    · cases e : zField ((t.drop (p + 1)).take (zTw zNb (t.drop (p + 1)))) A F with
      | none => rw [e] at h; cases h
      | some F2 => rw [e] at h; exact ih (zField_w hA hF e) h
    · cases h; exact hF
theorem zServe_w {t : List Nat} {a : zAn} (ht : t.all zOkc = true) (h : zServe t = .inr a) : zAnW a := by
  unfold zServe at h
  split at h
  · cases h
  · next A e =>
    have hA : zWf A := by
      split at e
      · exact zRead_wf zHome_wf e
      · cases e
    split at h
    · split at h
      · cases h
      · next p F e2 =>
        have hF := zFls_w hA (F := (none, ([], []), none, false)) ⟨(fun n hn => by cases hn), Or.inl ⟨rfl, rfl⟩, (fun b hb => by cases hb)⟩ e2
        split at h
        · cases h
        · split at h
          · cases h
          · cases h
            refine ⟨hA, ?_, hF.2.1, hF.2.2, ?_, ?_⟩
            · cases e3 : F.1 with
              | none => exact Nat.zero_le _
              | some n => exact hF.1 n e3
            · show (t.drop (p + 1)).length ≤ 1500
              rw [List.length_drop]; omega
            · rw [List.all_eq_true] at ht ⊢
              exact fun c hc => ht c (List.mem_of_mem_drop hc)
    · cases h
