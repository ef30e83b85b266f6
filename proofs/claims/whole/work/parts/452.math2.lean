theorem tw_app {p : Nat → Bool} {x y : List Nat} (hx : ∀ a ∈ x, p a = true) (hy : y = [] ∨ ∃ h l, y = h :: l ∧ p h = false) : zTw p (x ++ y) = x.length := by
  unfold zTw
  rw [List.takeWhile_append_of_pos hx, List.length_append]
  rcases hy with rfl | ⟨h, l, rfl, e⟩
  · rfl
  · rw [List.takeWhile_cons, e]; rfl
theorem tw_split {p : Nat → Bool} {t : List Nat} : t = t.take (zTw p t) ++ t.drop (zTw p t) ∧ (∀ a ∈ t.take (zTw p t), p a = true) ∧ (t.drop (zTw p t) = [] ∨ ∃ h l, t.drop (zTw p t) = h :: l ∧ p h = false) := by
  refine ⟨(List.take_append_drop _ _).symm, fun a ha => ?_, ?_⟩
  · obtain ⟨i, hi, e⟩ := List.getElem_of_mem ha
    rw [List.length_take] at hi
    have := tw_at p t i (by omega)
    rw [List.getElem_take] at e
    rw [List.getD_eq_getElem?_getD, List.getElem?_eq_getElem (by omega)] at this
    rw [← e]; exact this
  · by_cases h : zTw p t < t.length
    · right
      refine ⟨t[zTw p t], t.drop (zTw p t + 1), (List.drop_eq_getElem_cons h), ?_⟩
      have := tw_end p t h
      rw [List.getD_eq_getElem?_getD, List.getElem?_eq_getElem h] at this
      exact this
    · left
      exact List.drop_of_length_le (by omega)
theorem zNo_iff {k c : Nat} : zNo k c = true ↔ c ≠ k := by simp [zNo]
theorem zNo_f {k c : Nat} : zNo k c = false ↔ c = k := by simp [zNo]
theorem app_inj {c : Nat} {x x2 y y2 : List Nat} (hx : c ∉ x) (hx2 : c ∉ x2) (hy : y = [] ∨ ∃ l, y = c :: l) (hy2 : y2 = [] ∨ ∃ l, y2 = c :: l) (h : x ++ y = x2 ++ y2) : x = x2 ∧ y = y2 := by
  have e1 : zTw (zNo c) (x ++ y) = x.length := tw_app (fun a ha => zNo_iff.mpr (fun e => hx (e ▸ ha))) (hy.imp id (fun ⟨l, e⟩ => ⟨c, l, e, zNo_f.mpr rfl⟩))
  have e2 : zTw (zNo c) (x2 ++ y2) = x2.length := tw_app (fun a ha => zNo_iff.mpr (fun e => hx2 (e ▸ ha))) (hy2.imp id (fun ⟨l, e⟩ => ⟨c, l, e, zNo_f.mpr rfl⟩))
  rw [h, e2] at e1
  exact List.append_inj h e1.symm
theorem zFlat_mem {c : Nat} {s : List (List Nat)} (h : c ∈ zFlat s) : c = 47 ∨ ∃ x ∈ s, c ∈ x := by
  unfold zFlat at h
  obtain ⟨x, hx, hc⟩ := List.mem_flatMap.mp h
  rcases List.mem_cons.mp hc with rfl | hc
  · exact Or.inl rfl
  · exact Or.inr ⟨x, hx, hc⟩
theorem zFlat_inj : ∀ {s s2 : List (List Nat)}, (∀ x ∈ s, 47 ∉ x) → (∀ x ∈ s2, 47 ∉ x) → zFlat s = zFlat s2 → s = s2 := by
  intro s
  induction s with
  | nil =>
    intro s2 _ _ h
    cases s2 with
    | nil => rfl
    | cons y l => rw [zFlat_cons] at h; cases h
  | cons x l ih =>
    intro s2 h1 h2 h
    cases s2 with
    | nil => rw [zFlat_cons] at h; cases h
    | cons y l2 =>
      rw [zFlat_cons, zFlat_cons] at h
      have h' : x ++ zFlat l = y ++ zFlat l2 := (List.cons.inj h).2
      have sh : ∀ l : List (List Nat), zFlat l = [] ∨ ∃ k, zFlat l = 47 :: k := fun l => by
        cases l with
        | nil => exact Or.inl rfl
        | cons a b => exact Or.inr ⟨_, zFlat_cons⟩
      obtain ⟨e1, e2⟩ := app_inj (h1 x List.mem_cons_self) (h2 y List.mem_cons_self) (sh l) (sh l2) h'
      rw [e1, ih (fun z hz => h1 z (List.mem_cons_of_mem _ hz)) (fun z hz => h2 z (List.mem_cons_of_mem _ hz)) e2]
theorem zNc_no {x : List Nat} (h : x.all zNc = true) {c : Nat} (hc : zNc c = false) : c ∉ x := fun z => by
  have := List.all_eq_true.mp h c z
  rw [hc] at this
  cases this
theorem zFlat_hd {s : List (List Nat)} (h : s ≠ []) : ∃ l, zFlat s = 47 :: l := by
  cases s with
  | nil => exact absurd rfl h
  | cons x l => exact ⟨_, zFlat_cons⟩
theorem zWf.noq {A : zA} (h : zWf A) : 63 ∉ zFlat A.2.1 := fun z => by
  rcases zFlat_mem z with e | ⟨x, hx, hc⟩
  · exact absurd e (by decide)
  · exact zSg_no (h.2.2.2.1 x hx).2.1 (by decide) hc
theorem zWf.qy {A : zA} (h : zWf A) : A.2.2.1 = [] ∨ ∃ l, A.2.2.1 = 63 :: l := h.2.2.2.2.1.imp id (fun ⟨q, e, _⟩ => ⟨q, e⟩)
/-- the PLACE tells all parts but the MARK -/
theorem zPl_inj {A B : zA} (ha : zWf A) (hb : zWf B) : zPl A = zPl B ↔ A.1 = B.1 ∧ A.2.1 = B.2.1 ∧ A.2.2.1 = B.2.2.1 := by
  constructor
  · intro h
    unfold zPl at h
    rw [List.append_assoc, List.append_assoc, List.append_assoc, List.append_assoc] at h
    have h' : A.1 ++ (zFlat A.2.1 ++ A.2.2.1) = B.1 ++ (zFlat B.2.1 ++ B.2.2.1) := List.append_cancel_left h
    obtain ⟨l1, e1⟩ := zFlat_hd ha.2.1
    obtain ⟨l2, e2⟩ := zFlat_hd hb.2.1
    obtain ⟨g1, g2⟩ := app_inj (c := 47) (zNc_no (zNm_all ha.1).2.2 (by decide)) (zNc_no (zNm_all hb.1).2.2 (by decide)) (Or.inr ⟨l1 ++ A.2.2.1, by rw [e1]; rfl⟩) (Or.inr ⟨l2 ++ B.2.2.1, by rw [e2]; rfl⟩) h'
    obtain ⟨g3, g4⟩ := app_inj (c := 63) ha.noq hb.noq ha.qy hb.qy g2
    exact ⟨g1, zFlat_inj ha.no hb.no g3, g4⟩
  · rintro ⟨h1, h2, h3⟩
    unfold zPl
    rw [h1, h2, h3]
theorem spl_mem {c : Nat} : ∀ {t x : List Nat}, x ∈ zSpl c t → c ∉ x ∧ ∀ y ∈ x, y ∈ t := by
  intro t
  induction t with
  | nil =>
    intro x h
    have : x = [] := List.mem_singleton.mp h
    subst this
    exact ⟨List.not_mem_nil, fun y h => by cases h⟩
  | cons a l ih =>
    intro x h
    unfold zSpl at h
    by_cases e : a = c
    · rw [if_pos e] at h
      rcases List.mem_cons.mp h with rfl | h
      · exact ⟨List.not_mem_nil, fun y h => by cases h⟩
      · exact ⟨(ih h).1, fun y hy => List.mem_cons_of_mem _ ((ih h).2 y hy)⟩
    · rw [if_neg e] at h
      cases hs : zSpl c l with
      | nil => exact absurd hs spl_ne
      | cons s r =>
        rw [hs] at h
        have h1 := ih (x := s) (by rw [hs]; exact List.mem_cons_self)
        rcases List.mem_cons.mp h with rfl | h
        · refine ⟨fun z => ?_, fun y hy => ?_⟩
          · rcases List.mem_cons.mp z with z | z
            · exact e z.symm
            · exact h1.1 z
          · rcases List.mem_cons.mp hy with rfl | hy
            · exact List.mem_cons_self
            · exact List.mem_cons_of_mem _ (h1.2 y hy)
        · have h2 := ih (x := x) (by rw [hs]; exact List.mem_cons_of_mem _ h)
          exact ⟨h2.1, fun y hy => List.mem_cons_of_mem _ (h2.2 y hy)⟩
def zSok (x : List Nat) : Prop := x.length ≤ 12 ∧ x.all zSg = true ∧ x ≠ [46] ∧ x ≠ [46, 46]
theorem zSok_nil : zSok [] := ⟨by decide, rfl, by decide, by decide⟩
theorem zSt_ok {s : List (List Nat)} {x : List Nat} (hs : ∀ y ∈ s, zSok y) (hx : x.length ≤ 12 ∧ x.all zSg = true) : ∀ y ∈ zSt s x, zSok y := by
  intro y hy
  unfold zSt at hy
  by_cases e1 : x = [46, 46]
  · rw [if_pos e1] at hy; exact hs y ((List.dropLast_sublist _).subset hy)
  · rw [if_neg e1] at hy
    by_cases e2 : x = [46]
    · rw [if_pos e2] at hy; exact hs y hy
    · rw [if_neg e2] at hy
      rcases List.mem_append.mp hy with h | h
      · exact hs y h
      · rw [List.mem_singleton.mp h]; exact ⟨hx.1, hx.2, e2, e1⟩
theorem zLast_ok {s : List (List Nat)} {x : List Nat} (hs : ∀ y ∈ s, zSok y) (hx : x.length ≤ 12 ∧ x.all zSg = true) : ∀ y ∈ zLast s x, zSok y := by
  intro y hy
  unfold zLast at hy
  by_cases e1 : x = [46, 46]
  · rw [if_pos e1] at hy
    rcases List.mem_append.mp hy with h | h
    · exact hs y ((List.dropLast_sublist _).subset h)
    · rw [List.mem_singleton.mp h]; exact zSok_nil
  · rw [if_neg e1] at hy
    by_cases e2 : x = [46]
    · rw [if_pos e2] at hy
      rcases List.mem_append.mp hy with h | h
      · exact hs y h
      · rw [List.mem_singleton.mp h]; exact zSok_nil
    · rw [if_neg e2] at hy
      rcases List.mem_append.mp hy with h | h
      · exact hs y h
      · rw [List.mem_singleton.mp h]; exact ⟨hx.1, hx.2, e2, e1⟩
theorem zLast_ne {s : List (List Nat)} {x : List Nat} : zLast s x ≠ [] := by
  unfold zLast
  split
  · simp
  · split <;> simp
theorem zTk_ok : ∀ {l s : List (List Nat)}, (∀ y ∈ s, zSok y) → (∀ x ∈ l, x.length ≤ 12 ∧ x.all zSg = true) → ∀ y ∈ zTk s l, zSok y := by
  intro l
  induction l with
  | nil => intro s hs _; exact hs
  | cons x r ih =>
    intro s hs hl
    cases r with
    | nil => exact zLast_ok hs (hl x List.mem_cons_self)
    | cons y r => exact ih (zSt_ok hs (hl x List.mem_cons_self)) (fun z hz => hl z (List.mem_cons_of_mem _ hz))
theorem zTk_ne : ∀ {l s : List (List Nat)}, l ≠ [] → zTk s l ≠ [] := by
  intro l
  induction l with
  | nil => intro s h; exact absurd rfl h
  | cons x r ih =>
    intro s _
    cases r with
    | nil => exact zLast_ne
    | cons y r => exact ih (by simp)
theorem zPg_sg {c : Nat} (h : zPg c = true) (h2 : c ≠ 47) : zSg c = true := by
  unfold zPg at h
  rcases Bool.or_eq_true_iff.mp h with h | h
  · exact h
  · exact absurd (eq_of_beq h) h2
theorem zSg_pg {c : Nat} (h : zSg c = true) : zPg c = true := by unfold zPg; rw [h]; rfl
theorem zNc_sg {c : Nat} (h : zNc c = true) : zSg c = true := by
  rw [zSg_iff]; rw [zNc_iff] at h; omega
theorem spl_pg {t : List Nat} (h : t.all zPg = true) : ∀ x ∈ zSpl 47 t, x.all zSg = true := by
  intro x hx
  obtain ⟨h1, h2⟩ := spl_mem hx
  rw [List.all_eq_true]
  intro c hc
  exact zPg_sg (List.all_eq_true.mp h c (h2 c hc)) (fun e => h1 (e ▸ hc))
theorem zPath_ok {s p : List (List Nat)} {t : List Nat} (hs : ∀ y ∈ s, zSok y) (h : zPath s t = some p) : p ≠ [] ∧ p.length ≤ 6 ∧ ∀ y ∈ p, zSok y := by
  rw [zPath_eq] at h
  by_cases e : zPok s t = true
  · rw [if_pos e] at h
    cases h
    unfold zPok at e
    rw [Bool.and_eq_true, Bool.and_eq_true] at e
    refine ⟨zTk_ne spl_ne, Nat.le_of_ble_eq_true e.2, zTk_ok hs (fun x hx => ⟨Nat.le_of_ble_eq_true (List.all_eq_true.mp e.1.2 x hx), spl_pg e.1.1 x hx⟩)⟩
  · rw [if_neg e] at h; cases h
theorem zQy_hd {t : List Nat} : zQy t = [] ∨ ∃ l, zQy t = 63 :: l := by
  unfold zQy
  rcases (tw_split (p := zNo 63) (t := zHq t)).2.2 with h | ⟨h, l, e, e2⟩
  · exact Or.inl h
  · exact Or.inr ⟨l, by rw [e, zNo_f.mp e2]⟩
theorem zMk_hd {t : List Nat} : zMk t = [] ∨ ∃ l, zMk t = 35 :: l := by
  unfold zMk
  rcases (tw_split (p := zNo 35) (t := t)).2.2 with h | ⟨h, l, e, e2⟩
  · exact Or.inl h
  · exact Or.inr ⟨l, by rw [e, zNo_f.mp e2]⟩
theorem zQok_wf {q : List Nat} (h : zQok q = true) (hd : q = [] ∨ ∃ l, q = 63 :: l) : q = [] ∨ ∃ r, q = 63 :: r ∧ r.length ≤ 40 ∧ r.all zQc = true := by
  rcases hd with h0 | ⟨l, rfl⟩
  · exact Or.inl h0
  · right
    unfold zQok at h
    simp only [List.isEmpty_cons, Bool.false_or, Bool.and_eq_true, List.length_cons, List.drop_succ_cons, List.drop_zero] at h
    exact ⟨l, rfl, by have := Nat.le_of_ble_eq_true h.1; omega, h.2⟩
theorem zMok_wf {q : List Nat} (h : zMok q = true) (hd : q = [] ∨ ∃ l, q = 35 :: l) : q = [] ∨ ∃ r, q = 35 :: r ∧ zNm r = true := by
  rcases hd with h0 | ⟨l, rfl⟩
  · exact Or.inl h0
  · right
    unfold zMok at h
    simp only [List.isEmpty_cons, Bool.false_or, List.drop_succ_cons, List.drop_zero] at h
    exact ⟨l, rfl, h⟩
theorem zRead_wf {t : List Nat} {A B : zA} (hB : zWf B) (h : zRead t B = some A) : zWf A := by
  by_cases h1 : (zQok (zQy t) && zMok (zMk t)) = true
  · have h1' := Bool.and_eq_true_iff.mp h1
    have hq := zQok_wf h1'.1 zQy_hd
    have hm := zMok_wf h1'.2 zMk_hd
    by_cases h2 : (zHd t).isEmpty = true
    · have e : zRead t B = some (B.1, B.2.1, if (zQy t).isEmpty then B.2.2.1 else zQy t, zMk t) := by
        unfold zRead
        rw [h1, h2]; rfl
      rw [e] at h
      cases h
      refine ⟨hB.1, hB.2.1, hB.2.2.1, hB.2.2.2.1, ?_, hm⟩
      show (if (zQy t).isEmpty = true then B.2.2.1 else zQy t) = [] ∨ _
      split
      · exact hB.2.2.2.2.1
      · exact hq
    · rw [zRead_3 h1 ((Bool.not_eq_true _).mp h2)] at h
      have fin : ∀ {s : List (List Nat)} {x n : List Nat}, (∀ y ∈ s, zSok y) → zNm n = true → (zPath s x).map (fun p => (n, p, zQy t, zMk t)) = some A → zWf A := by
        intro s x n hs hn hz
        cases hp : zPath s x with
        | none => rw [hp] at hz; cases hz
        | some p =>
          rw [hp] at hz
          cases hz
          obtain ⟨g1, g2, g3⟩ := zPath_ok hs hp
          exact ⟨hn, g1, g2, g3, hq, hm⟩
      split at h
      · split at h
        · next h4 => exact fin (fun y hy => by cases hy) h4 h
        · cases h
      · split at h
        · exact fin (fun y hy => by cases hy) hB.1 h
        · exact fin (fun y hy => hB.2.2.2.1 y ((List.dropLast_sublist _).subset hy)) hB.1 h
  · unfold zRead at h
    rw [(Bool.not_eq_true _).mp h1] at h
    cases h
