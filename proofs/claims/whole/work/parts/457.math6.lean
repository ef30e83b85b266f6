theorem zFls_le {A : zA} {t : List Nat} : ∀ {n p : Nat} {F : zFe} {q : Nat}, p ≤ t.length → zFls A t n p F = .inl q → q ≤ t.length := by
  intro n
  induction n with
  | zero => intro p F q _ h; cases h
  | succ n ih =>
    intro p F q hp h
    unfold zFls at h
    split at h
    · next hc =>
      cases e : zField ((t.drop (p + 1)).take (zTw zNb (t.drop (p + 1)))) A F with
      | none => rw [e] at h; cases h; omega
      | some F2 =>
        rw [e] at h
        refine ih ?_ h
        have := tw_le zNb (t.drop (p + 1))
        rw [List.length_drop] at this
        omega
    · cases h
theorem zServe_le {t : List Nat} {q : Nat} (h : zServe t = .inl q) : q ≤ t.length := by
  unfold zServe at h
  split at h
  · cases h; exact Nat.zero_le _
  · split at h
    · split at h
      · next p e =>
        cases h
        exact zFls_le (tw_le zNb t) e
      · split at h
        · cases h; omega
        · split at h
          · cases h; omega
          · cases h
    · cases h; exact Nat.zero_le _
/-- numbers that stay small -/
def zDN (D : zDD) : Prop := D.2.2.2 < 2 ^ 29 ∧ ∀ k ∈ D.2.2.1, k.2 < 2 ^ 30
theorem zKput_mem {ks : List zKe} {k x : zKe} (h : x ∈ zKput ks k) : x ∈ ks ∨ x = k := by
  unfold zKput at h
  split at h
  · rcases List.mem_append.mp h with q | q
    · exact Or.inl ((List.eraseIdx_sublist _ _).subset q)
    · exact Or.inr (List.mem_singleton.mp q)
  · split at h
    · rcases List.mem_append.mp h with q | q
      · exact Or.inl ((List.eraseIdx_sublist _ _).subset q)
      · exact Or.inr (List.mem_singleton.mp q)
    · rcases List.mem_append.mp h with q | q
      · exact Or.inl q
      · exact Or.inr (List.mem_singleton.mp q)
theorem zReq_n {D : zDD} {R : zRR} {a : zA} (h : zDDW D) (hn : zDN D) : zDN (zReq D R a).1 ∧ (zReq D R a).2.1.1 = R.1 + 1 ∧ (zReq D R a).2.1.2.1 = some a ∧ (zReq D R a).1.2.2.2 = D.2.2.2 := by
  unfold zReq
  cases e : D.1[zFi (zAsp (zPl a)) D.1]? with
  | none => exact ⟨hn, rfl, rfl, rfl⟩
  | some x =>
    refine ⟨⟨hn.1, fun k hk => ?_⟩, rfl, rfl, rfl⟩
    have hx := (h.1 x (List.mem_of_getElem? e)).2.1
    by_cases q : x.2.1 = 0
    · have hk' : k ∈ (if x.2.1 = 0 then D.2.2.1 else zKput D.2.2.1 (x, D.2.2.2 + x.2.1)) := hk
      rw [if_pos q] at hk'
      exact hn.2 k hk'
    · have hk' : k ∈ (if x.2.1 = 0 then D.2.2.1 else zKput D.2.2.1 (x, D.2.2.2 + x.2.1)) := hk
      rw [if_neg q] at hk'
      rcases zKput_mem hk' with w | w
      · exact hn.2 k w
      · rw [w]
        have := hn.1
        show D.2.2.2 + x.2.1 < 2 ^ 30
        omega
theorem zAsk_n {D : zDD} {R : zRR} {a : zA} (h : zDDW D) (hn : zDN D) : zDN (zAsk D R a).1 ∧ (zAsk D R a).2.1.1 ≤ R.1 + 1 ∧ (zAsk D R a).1.2.2.2 = D.2.2.2 := by
  unfold zAsk
  cases e : zFresh D.2.2.1 (zPl a) D.2.2.2 with
  | none =>
    obtain ⟨h1, h2, h3, h4⟩ := zReq_n (R := R) (a := a) h hn
    exact ⟨h1, Nat.le_of_eq h2, h4⟩
  | some x => exact ⟨hn, Nat.le_succ _, rfl⟩
/-- behind an answer: n more may be followed -/
def zAft (n : Nat) (r : zDD × zRR × Option zAn × Bool) (a : zA) : zDD × zRR × zAn × zA × Nat × Bool := match zToOf r.2.2.1 with
  | none => (r.1, r.2.1, r.2.2.1.getD zEmp, a, 0, r.2.2.2)
  | some b => match n with
    | 0 => (r.1, r.2.1, zEmp, a, 0, r.2.2.2)
    | n + 1 => ((zGoo n r.1 r.2.1 b).1, (zGoo n r.1 r.2.1 b).2.1, (zGoo n r.1 r.2.1 b).2.2.1, (zGoo n r.1 r.2.1 b).2.2.2.1, (zGoo n r.1 r.2.1 b).2.2.2.2.1 + 1, (zGoo n r.1 r.2.1 b).2.2.2.2.2)
theorem zGoo_aft {n : Nat} {D : zDD} {R : zRR} {a : zA} : zGoo n D R a = zAft n (zAsk D R a) a := by
  cases n with
  | zero =>
    unfold zGoo zAft
    cases e : zToOf (zAsk D R a).2.2.1 with
    | none => rfl
    | some b => rfl
  | succ n =>
    unfold zGoo zAft
    cases e : zToOf (zAsk D R a).2.2.1 with
    | none => rfl
    | some b => rfl
theorem zGoo_n : ∀ {n : Nat} {D : zDD} {R : zRR} {a : zA}, zDDW D → zWf a → zDN D → zDN (zGoo n D R a).1 ∧ (zGoo n D R a).2.1.1 ≤ R.1 + (n + 1) ∧ (zGoo n D R a).1.2.2.2 = D.2.2.2 ∧ (zGoo n D R a).2.2.2.2.1 ≤ n := by
  intro n
  induction n with
  | zero =>
    intro D R a h ha hn
    obtain ⟨h1, h2, h3⟩ := zAsk_n (R := R) (a := a) h hn
    exact ⟨h1, h2, h3, Nat.le_refl _⟩
  | succ n ih =>
    intro D R a h ha hn
    obtain ⟨h1, h2, h3⟩ := zAsk_n (R := R) (a := a) h hn
    obtain ⟨w1, w2⟩ := zAsk_w (R := R) h ha
    unfold zGoo
    cases e : zToOf (zAsk D R a).2.2.1 with
    | none => exact ⟨h1, by show (zAsk D R a).2.1.1 ≤ _; omega, h3, Nat.zero_le _⟩
    | some b =>
      have hb : zWf b := by
        unfold zToOf at e
        cases e2 : (zAsk D R a).2.2.1 with
        | none => rw [e2] at e; cases e
        | some x => rw [e2] at e; exact (w2 x e2).2.2.2.1 b e
      obtain ⟨g1, g2, g3, g4⟩ := ih (R := (zAsk D R a).2.1) w1 hb h1
      exact ⟨g1, by show (zGoo n (zAsk D R a).1 (zAsk D R a).2.1 b).2.1.1 ≤ _; omega, g3.trans h3, by show (zGoo n (zAsk D R a).1 (zAsk D R a).2.1 b).2.2.2.2.1 + 1 ≤ _; omega⟩
