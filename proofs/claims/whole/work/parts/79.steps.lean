/-! A state stays one, call by call. -/
def zSk (k : Nat) (T : zTT) (D : zDD) (Q : zRR) (C : zCC) : Prop := zSW T D Q C ∧ D.2.2.2 ≤ 1000 * k ∧ Q.1 ≤ 6 * k
def zSo (k : Nat) (n : Nat) (o : zOo) : Prop := zSk (k + 1) o.2.1 o.2.2.1 o.2.2.2.1 o.2.2.2.2 ∧ o.2.1.1.length ≤ n
theorem zTell_360 {site : List Nat} {cs : List zCk} (h : ∀ c ∈ cs, zCkW c) (hl : cs.length ≤ 20) : (zTell site cs).length ≤ 360 := by
  have := zTell_len (site := site) h cs.length (Nat.le_refl _)
  rw [List.take_length] at this
  omega
theorem zReq_q {D : zDD} {R : zRR} {a : zA} (h : zDDW D) (ha : zWf a) : (∀ b, (zReq D R a).2.1.2.1 = some b → zWf b) ∧ (zReq D R a).2.1.2.2.length ≤ 360 := by
  have hl := zTell_360 (site := a.1) h.2.2.2.1 h.2.2.2.2.1
  unfold zReq
  cases e : D.1[zFi (zAsp (zPl a)) D.1]? with
  | none => exact ⟨fun b hb => by cases hb; exact ha, hl⟩
  | some x => exact ⟨fun b hb => by cases hb; exact ha, hl⟩
theorem zAsk_q {D : zDD} {R : zRR} {a : zA} (h : zDDW D) (ha : zWf a) (h1 : ∀ b, R.2.1 = some b → zWf b) (h2 : R.2.2.length ≤ 360) : (∀ b, (zAsk D R a).2.1.2.1 = some b → zWf b) ∧ (zAsk D R a).2.1.2.2.length ≤ 360 := by
  unfold zAsk
  cases e : zFresh D.2.2.1 (zPl a) D.2.2.2 with
  | none => exact zReq_q h ha
  | some x => exact ⟨h1, h2⟩
theorem zGoo_q : ∀ {n : Nat} {D : zDD} {R : zRR} {a : zA}, zDDW D → zWf a → (∀ b, R.2.1 = some b → zWf b) → R.2.2.length ≤ 360 → (∀ b, (zGoo n D R a).2.1.2.1 = some b → zWf b) ∧ (zGoo n D R a).2.1.2.2.length ≤ 360 := by
  intro n
  induction n with
  | zero => intro D R a h ha h1 h2; exact zAsk_q h ha h1 h2
  | succ n ih =>
    intro D R a h ha h1 h2
    obtain ⟨w1, w2⟩ := zAsk_w (R := R) h ha
    have q := zAsk_q h ha h1 h2
    unfold zGoo
    cases e : zToOf (zAsk D R a).2.2.1 with
    | none => exact q
    | some b =>
      have hb : zWf b := by
        unfold zToOf at e
        cases e2 : (zAsk D R a).2.2.1 with
        | none => rw [e2] at e; cases e
        | some x => rw [e2] at e; exact (w2 x e2).2.2.2.1 b e
      exact ih w1 hb q.1 q.2
section NE
variable {k : Nat} {T : zTT} {D : zDD} {Q : zRR} {C : zCC}
theorem zSk.mono (h : zSk k T D Q C) : zSk (k + 1) T D Q C := ⟨h.1, by have := h.2.1; omega, by have := h.2.2; omega⟩
theorem zSk.t (h : zSk k T D Q C) {t : List Nat} (ht : t.length ≤ 2000) : zSk (k + 1) (t, T.2) D Q C := ⟨⟨ht, h.1.2⟩, h.mono.2⟩
theorem zSk.o (h : zSk k T D Q C) {t : List Nat} : zSk (k + 1) (T.1, t, T.2.2) D Q C := ⟨h.1, h.mono.2⟩
theorem so_feed (h : zSk k T D Q C) (a b c e f : Int32) : zSo k (T.1.length + 20) (oFeed a b c e f T D Q C) := by
  unfold oFeed
  have lw : ∀ w : Int32, (zWb w).length = 4 := fun w => rfl
  split
  · exact ⟨h.mono, Nat.le_add_right _ _⟩
  · have : (T.1 ++ zWb a ++ zWb b ++ zWb c ++ zWb e ++ zWb f).length = T.1.length + 20 := by simp only [List.length_append, lw]
    exact ⟨h.t (by omega), Nat.le_of_eq this⟩
theorem so_end (h : zSk k T D Q C) (n : Int32) : zSo k T.1.length (oEnd n T D Q C) := by
  unfold oEnd
  split
  · exact ⟨h.mono, Nat.le_refl _⟩
  · have : (T.1.take n.toNatClampNeg).length ≤ T.1.length := by rw [List.length_take]; omega
    have := h.1.1
    exact ⟨h.t (by omega), (by omega)⟩
theorem so_out (h : zSk k T D Q C) (n : Int32) : zSo k T.1.length (oOut n T D Q C) := ⟨h.mono, Nat.le_refl _⟩
theorem so_body (h : zSk k T D Q C) (n : Int32) : zSo k T.1.length (oBody n T D Q C) := ⟨h.mono, Nat.le_refl _⟩
theorem so_count (h : zSk k T D Q C) (n : Int32) : zSo k T.1.length (oCount n T D Q C) := ⟨h.mono, Nat.le_refl _⟩
theorem so_tick (hk : k < 512) (h : zSk k T D Q C) (n : Int32) : zSo k T.1.length (oTick n T D Q C) := by
  unfold oTick
  split
  · exact ⟨h.mono, Nat.le_refl _⟩
  · next hn =>
    obtain ⟨⟨h1, h2, h3, h4, h5⟩, h6, h7⟩ := h
    have h0 : ¬ n < 0 := fun z => hn (Or.inl z)
    obtain ⟨j, hj, rfl⟩ := nI_of h0
    have hle : j ≤ 1000 := by
      rcases Nat.lt_or_ge 1000 j with w | w
      · exact absurd (Or.inr (nI_lt (a := 1000) w hj)) hn
      · exact w
    rw [nI_clamp hj]
    refine ⟨⟨⟨h1, h2, h3, ⟨?_, h4.2⟩, h5⟩, ?_, ?_⟩, Nat.le_refl _⟩
    · show D.2.2.2 + j < 2 ^ 29; omega
    · show D.2.2.2 + j ≤ 1000 * (k + 1); omega
    · show Q.1 ≤ 6 * (k + 1); omega
theorem so_write (h : zSk k T D Q C) (n : Int32) : zSo k T.1.length (oWrite n T D Q C) := by
  unfold oWrite
  split
  · exact ⟨h.o, Nat.le_refl _⟩
  · split
    · exact ⟨h.o, Nat.le_refl _⟩
    · split
      · exact ⟨h.o, Nat.le_refl _⟩
      · split
        · exact ⟨h.o, Nat.le_refl _⟩
        · exact ⟨h.mono, Nat.le_refl _⟩
/-- a call that takes THE TAPE -/
theorem so_tx {f : List Nat → zTT → zDD → zRR → zCC → zOo} (h : zSk k T D Q C) (hf : T.1.all zOkc = true → zSk k ([], T.2) D Q C → zSo k 0 (f T.1 ([], T.2) D Q C)) : zSo k 0 (oTx f T D Q C) := by
  unfold oTx
  split
  · exact ⟨h.t (Nat.zero_le _), Nat.le_refl _⟩
  · next hn => exact hf (zOk_all hn) ⟨⟨Nat.zero_le _, h.1.2⟩, h.2⟩
theorem so_resolve (h : zSk k T D Q C) : zSo k 0 (oTx oResolve T D Q C) := by
  refine so_tx h (fun _ h1 => ?_)
  unfold oResolve
  cases zRead T.1 ([], T.2).2.2 with
  | none => exact ⟨h1.mono, Nat.le_refl _⟩
  | some A => exact ⟨h1.o, Nat.le_refl _⟩
theorem so_base (h : zSk k T D Q C) : zSo k 0 (oTx oBase T D Q C) := by
  refine so_tx h (fun _ h1 => ?_)
  unfold oBase
  cases hz : zRead T.1 ([], T.2).2.2 with
  | none => exact ⟨h1.mono, Nat.le_refl _⟩
  | some A => exact ⟨⟨⟨h1.1.1, zRead_wf h1.1.2.1 hz, h1.1.2.2⟩, h1.mono.2⟩, Nat.le_refl _⟩
theorem so_forget (h : zSk k T D Q C) : zSo k 0 (oTx oForget T D Q C) := by
  refine so_tx h (fun _ h1 => ?_)
  unfold oForget
  split
  · cases hz : zLst T.1 D.2.1 D.2.1.length with
    | none => exact ⟨h1.mono, Nat.le_refl _⟩
    | some i =>
      obtain ⟨⟨g1, g2, ⟨d1, d2, d3, d4, d5, d6⟩, g4, g5⟩, g6, g7⟩ := h1
      refine ⟨⟨⟨g1, g2, ⟨d1, d2, d3, fun c hc => d4 c ((List.eraseIdx_sublist _ _).subset hc), ?_, d6⟩, g4, g5⟩, ?_, ?_⟩, Nat.le_refl _⟩
      · have : (D.2.1.eraseIdx i).length ≤ D.2.1.length := (List.eraseIdx_sublist _ _).length_le
        show (D.2.1.eraseIdx i).length ≤ 20
        omega
      · show D.2.2.2 ≤ 1000 * (k + 1); omega
      · show Q.1 ≤ 6 * (k + 1); omega
  · exact ⟨h1.mono, Nat.le_refl _⟩
theorem zAput_w {as as' : List zAn} {α : zAn} (h1 : ∀ a ∈ as, zAnW a) (h2 : as.length ≤ 12) (h3 : as.Pairwise (fun a b => zPl a.1 ≠ zPl b.1)) (hα : zAnW α) (h : zAput as α = some as') : (∀ a ∈ as', zAnW a) ∧ as'.length ≤ 12 ∧ as'.Pairwise (fun a b => zPl a.1 ≠ zPl b.1) := by
  unfold zAput at h
  split at h
  · next hi =>
    cases h
    refine ⟨fun a ha => ?_, by rw [List.length_set]; exact h2, ?_⟩
    · rcases List.mem_or_eq_of_mem_set ha with q | q
      · exact h1 a q
      · rw [q]; exact hα
    · have e := fi_at hi
      have e2 : zPl as[zFi (zAsp (zPl α.1)) as].1 = zPl α.1 := eq_of_beq e
      rw [List.pairwise_iff_getElem] at h3 ⊢
      intro i j hi' hj' hij
      rw [List.length_set] at hi' hj'
      rw [List.getElem_set, List.getElem_set]
      by_cases qi : zFi (zAsp (zPl α.1)) as = i
      · rw [if_pos qi, if_neg (by omega)]
        exact fun z => h3 (zFi (zAsp (zPl α.1)) as) j hi hj' (by omega) (e2.trans z)
      · rw [if_neg qi]
        by_cases qj : zFi (zAsp (zPl α.1)) as = j
        · rw [if_pos qj]
          exact fun z => h3 i (zFi (zAsp (zPl α.1)) as) hi' hi (by omega) (z.trans e2.symm)
        · rw [if_neg qj]; exact h3 i j hi' hj' hij
  · next hi =>
    split at h
    · next hl =>
      cases h
      refine ⟨fun a ha => ?_, by rw [List.length_append]; simp only [List.length_cons, List.length_nil]; omega, ?_⟩
      · rcases List.mem_append.mp ha with q | q
        · exact h1 a q
        · rw [List.mem_singleton.mp q]; exact hα
      · rw [List.pairwise_append]
        refine ⟨h3, List.pairwise_singleton _ _, fun a ha b hb z => ?_⟩
        rw [List.mem_singleton.mp hb] at z
        have := fi_none hi a ha
        unfold zAsp at this
        rw [z] at this
        simp at this
    · cases h
theorem so_server (h : zSk k T D Q C) : zSo k 0 (oTx oServer T D Q C) := by
  refine so_tx h (fun hok h1 => ?_)
  unfold oServer
  cases hz : zServe T.1 with
  | inl p => exact ⟨h1.mono, Nat.le_refl _⟩
  | inr α =>
    have hα := zServe_w hok hz
    cases hp : zAput D.1 α with
    | none => simp only [hp]; exact ⟨h1.mono, Nat.le_refl _⟩
    | some as =>
      simp only [hp]
      obtain ⟨⟨g1, g2, ⟨d1, d2, d3, d4⟩, g4, g5⟩, g6, g7⟩ := h1
      obtain ⟨a1, a2, a3⟩ := zAput_w d1 d2 d3 hα hp
      refine ⟨⟨⟨g1, g2, ⟨a1, a2, a3, d4⟩, g4, g5⟩, ?_, ?_⟩, Nat.le_refl _⟩
      · show D.2.2.2 ≤ 1000 * (k + 1); omega
      · show Q.1 ≤ 6 * (k + 1); omega
theorem so_fetch (hk : k < 512) (h : zSk k T D Q C) : zSo k 0 (oTx oFetch T D Q C) := by
  refine so_tx h (fun hok h1 => ?_)
  unfold oFetch
  cases hz : zRead T.1 ([], T.2).2.2 with
  | none => exact ⟨h1.mono, Nat.le_refl _⟩
  | some A =>
    have hA := zRead_wf h1.1.2.1 hz
    obtain ⟨⟨g1, g2, g3, g4, g5, g6, g7, g8⟩, g9, g10⟩ := h1
    obtain ⟨w1, w2, w3⟩ := zGoo_w (n := 5) (R := Q) g3 hA
    obtain ⟨n1, n2, n3, n4⟩ := zGoo_n (n := 5) (R := Q) g3 hA g4
    obtain ⟨q1, q2⟩ := zGoo_q (n := 5) g3 hA g6 g7
    refine ⟨⟨⟨g1, g2, w1, n1, ?_, q1, q2, w2, ?_, hA.2.2.2.2.2, n4⟩, ?_, ?_⟩, Nat.le_refl _⟩
    · show (zGoo 5 D Q A).2.1.1 < 2 ^ 29; omega
    · intro b hb; cases hb; exact w3
    · show (zGoo 5 D Q A).1.2.2.2 ≤ 1000 * (k + 1); omega
    · show (zGoo 5 D Q A).2.1.1 ≤ 6 * (k + 1); omega
end NE
theorem zSk_0 : zSk 0 ([], [], zHome) ([], [], [], 0) (0, none, []) (zEmp, none, [], 0, false) := ⟨⟨Nat.zero_le _, zHome_wf, ⟨(fun a h => by cases h), Nat.zero_le _, List.Pairwise.nil, (fun a h => by cases h), Nat.zero_le _, (fun a h => by cases h), Nat.zero_le _, List.Pairwise.nil⟩, ⟨by decide, (fun a h => by cases h)⟩, by decide, (fun b h => by cases h), Nat.zero_le _, zEmp_w, (fun b h => by cases h), Or.inl rfl, Nat.zero_le _⟩, Nat.le_refl _, Nat.le_refl _⟩
