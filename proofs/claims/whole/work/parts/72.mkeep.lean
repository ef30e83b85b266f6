/-! What the model keeps. -/
/-- the answer's place i is as it was -/
def mSm (μ μ' : zMm) (i : Nat) : Prop := μ'.2 18 i = μ.2 18 i ∧ μ'.2 23 i = μ.2 23 i ∧ μ'.2 24 i = μ.2 24 i ∧ ∀ j, j < 1500 → μ'.2 17 (i * 1500 + j) = μ.2 17 (i * 1500 + j)
abbrev kRw : List Nat := [18, 19, 20, 21, 22, 23, 24, 25, 58, 59, 60, 61, 62, 63, 64, 65]
theorem mSv.sm {μ μ' : zMm} {i r q : Nat} {α : zAn} (h : mSv μ i r q α) (hw : zAnW α) (m : mSm μ μ' i) (hr : mRa μ μ' r) (hq : mRa μ μ' q) : mSv μ' i r q α := by
  obtain ⟨a, b, c, e, g, k⟩ := h
  obtain ⟨m1, m2, m3, m4⟩ := m
  have hl := hw.2.2.2.2.1
  exact ⟨a.ra hr, m1.trans b, fun j hj => by rw [m4 j (by omega)]; exact c j hj, m2.trans e, fun b' hb => ⟨(g b' hb).1.ra hq, (g b' hb).2.ra hq⟩, m3.trans k⟩
theorem rK.le {μ : zMm} {n n' : Nat} {ks : List zKe} (h : rK μ n ks) (hn : n ≤ n') : rK μ n' ks := by
  obtain ⟨L, kc, a1, a2, a3, a4, a5⟩ := h
  exact ⟨L, kc, a1, a2, a3, Nat.le_trans a4 hn, a5⟩
/-- only the place s has changed -/
def kI (μ μ' : zMm) (s : Nat) : Prop := (∀ i, i ≠ 12 + s → mSm μ μ' i) ∧ (∀ i, i ≠ s → μ'.2 28 i = μ.2 28 i ∧ μ'.2 29 i = μ.2 29 i) ∧ mFm [26, 27] [17, 18, 23, 24, 28, 29] [18 + s, 58 + s] μ μ'
theorem mSm.rf {μ : zMm} {i : Nat} : mSm μ μ i := ⟨rfl, rfl, rfl, fun _ _ => rfl⟩
theorem mSm.tr {μ μ1 μ2 : zMm} {i : Nat} (h : mSm μ μ1 i) (g : mSm μ1 μ2 i) : mSm μ μ2 i := ⟨g.1.trans h.1, g.2.1.trans h.2.1, g.2.2.1.trans h.2.2.1, fun j hj => (g.2.2.2 j hj).trans (h.2.2.2 j hj)⟩
theorem kI.rf {μ : zMm} {s : Nat} : kI μ μ s := ⟨fun _ _ => mSm.rf, fun _ _ => ⟨rfl, rfl⟩, mFm.rf⟩
theorem kI.tr {μ μ1 μ2 : zMm} {s : Nat} (h : kI μ μ1 s) (g : kI μ1 μ2 s) : kI μ μ2 s := ⟨fun i hi => (h.1 i hi).tr (g.1 i hi), fun i hi => ⟨(g.2.1 i hi).1.trans (h.2.1 i hi).1, (g.2.1 i hi).2.trans (h.2.1 i hi).2⟩, h.2.2.tr g.2.2⟩
theorem kI.row {μ μ1 : zMm} {s r : Nat} (h : mFm [] [] [r] μ μ1) (hr : r = 18 + s ∨ r = 58 + s) : kI μ μ1 s := by
  have e : ∀ k, k ≠ 6 → k ≠ 7 → k ≠ 8 → μ1.2 k = μ.2 k := fun k a b c => h.2.1 k List.not_mem_nil a b c
  refine ⟨fun i _ => ⟨by rw [e 18 (by decide) (by decide) (by decide)], by rw [e 23 (by decide) (by decide) (by decide)], by rw [e 24 (by decide) (by decide) (by decide)], fun j _ => by rw [e 17 (by decide) (by decide) (by decide)]⟩, fun i _ => ⟨by rw [e 28 (by decide) (by decide) (by decide)], by rw [e 29 (by decide) (by decide) (by decide)]⟩, h.mono (fun _ z => by cases z) (fun _ z => by cases z) (fun k z => by rw [List.mem_singleton.mp z]; rcases hr with w | w <;> simp [w])⟩
theorem kI.i {μ : zMm} {s k : Nat} {v : Int32} (hk : k ∈ [26, 27]) : kI μ (upd μ.1 k v, μ.2) s := ⟨fun _ _ => mSm.rf, fun _ _ => ⟨rfl, rfl⟩, mFm.rf.pi hk⟩
theorem kI.a {μ : zMm} {s k i : Nat} {v : Int32} (hk : (k = 28 ∨ k = 29) ∧ i = s ∨ (k = 18 ∨ k = 23 ∨ k = 24) ∧ i = 12 + s ∨ k = 17 ∧ (12 + s) * 1500 ≤ i ∧ i < (12 + s) * 1500 + 1500) : kI μ (μ.1, updA μ.2 k i v) s := by
  have cell : ∀ k' i', ¬ (k' = k ∧ i' = i) → updA μ.2 k i v k' i' = μ.2 k' i' := fun k' i' hn => by
    by_cases e : k' = k
    · subst e
      rw [updA_s, pk_un (fun z => hn ⟨rfl, z⟩)]
    · rw [updA_n e]
  refine ⟨fun i' hi' => ⟨cell 18 i' (by omega), cell 23 i' (by omega), cell 24 i' (by omega), fun j hj => cell 17 _ (by omega)⟩, fun i' hi' => ⟨cell 28 i' (by omega), cell 29 i' (by omega)⟩, mFm.rf.pa ?_ (by omega) (by omega) (by omega)⟩
  simp only [List.mem_cons, List.not_mem_nil, or_false]; omega
theorem mem_er {α : Type} {L : List α} {i : Nat} {e : α} (h : e ∈ L) (hi : i < L.length) : e = L[i] ∨ e ∈ L.eraseIdx i := by
  obtain ⟨j, hj, rfl⟩ := List.getElem_of_mem h
  by_cases q : j = i
  · subst q; exact Or.inl rfl
  · exact Or.inr (List.mem_eraseIdx_iff_getElem.mpr ⟨j, hj, q, rfl⟩)
theorem er_map {α β : Type} (f : α → β) : ∀ (L : List α) (i : Nat), (L.eraseIdx i).map f = (L.map f).eraseIdx i := by
  intro L
  induction L with
  | nil => intro i; rfl
  | cons x l ih =>
    intro i
    cases i with
    | zero => rfl
    | succ i =>
      show f x :: (l.eraseIdx i).map f = f x :: (l.map f).eraseIdx i
      rw [ih]
/-- it is put at the place s: behind the others L0 -/
theorem rK.put {μ μ' : zMm} {s n kc N : Nat} {L0 : List (Nat × Nat × zKe)} {k : zKe} (hkI : kI μ μ' s) (h26 : μ'.1 26 = nI N) (h27 : μ'.1 27 = nI (kc + 1)) (hkc : kc + 1 ≤ n) (hN : L0.length + 1 = N) (hN8 : N ≤ 8) (hs : s < N) (hp : L0.Pairwise (fun a b => a.1 ≠ b.1 ∧ a.2.1 < b.2.1)) (hL : ∀ e ∈ L0, e.1 < N ∧ e.1 ≠ s ∧ e.2.1 < kc ∧ mSl μ e.1 e.2.2 e.2.1 ∧ zAnW e.2.2.1) (hall : ∀ i, i < N → i = s ∨ ∃ e ∈ L0, e.1 = i) (hk : mSl μ' s k kc) : rK μ' n (L0.map (fun e => e.2.2) ++ [k]) := by
  have hlen : (L0.map (fun e => e.2.2) ++ [k]).length = N := by rw [List.length_append, List.length_map]; exact hN
  refine ⟨L0 ++ [(s, kc, k)], kc + 1, by rw [List.map_append]; rfl, by rw [hlen]; exact h26, h27, hkc, ?_, fun e he => ?_, fun i hi => ?_⟩
  · rw [List.pairwise_append]
    refine ⟨hp, List.pairwise_singleton _ _, fun a ha b hb => ?_⟩
    rw [List.mem_singleton.mp hb]
    exact ⟨(hL a ha).2.1, (hL a ha).2.2.1⟩
  · rw [hlen]
    rcases List.mem_append.mp he with q | q
    · obtain ⟨g1, g2, g3, ⟨g4, g5, g6⟩, g7⟩ := hL e q
      refine ⟨g1, (by omega), g4.sm g7 (hkI.1 _ (by omega)) (hkI.2.2.2.2 _ (by simp only [List.mem_cons, List.not_mem_nil, or_false]; omega)) (hkI.2.2.2.2 _ (by simp only [List.mem_cons, List.not_mem_nil, or_false]; omega)), ?_, ?_⟩
      · rw [(hkI.2.1 _ g2).1]; exact g5
      · rw [(hkI.2.1 _ g2).2]; exact g6
    · rw [List.mem_singleton.mp q]
      exact ⟨hs, Nat.lt_succ_self _, hk⟩
  · rw [hlen] at hi
    rcases hall i hi with q | ⟨e, he, q⟩
    · exact ⟨(s, kc, k), List.mem_append_right _ (List.mem_singleton.mpr rfl), q.symm⟩
    · exact ⟨e, List.mem_append_left _ he, q⟩
theorem zB1_nar (b : Bool) : narrow .boolean (.int (zB1 b)) = .int (zB1 b) := by cases b <;> rfl
section MX
variable {G : zG} {d : Nat} {ad : Nat → Nat} {μ : zMm} {n g clk : Nat} {α : zAn} {ks : List zKe}
/-- the store of keep, at the place s -/
theorem mw_store (hC : zCs G) (hd : 2 ≤ d) {s kc N : Nat} (hs : s < 8) (hf : mPw μ 4 (zPl α.1)) (hg : g < 12) (hα : zAnW α) (hv : mSv μ g (6 + g) (46 + g) α) (h19 : μ.2 19 g = nI α.2.1) (h25 : μ.1 25 = nI clk) (h26 : μ.1 26 = nI N) (h27 : μ.1 27 = nI kc) {o3 o4 : Option Value} {P : zMm → Prop} (kk : ∀ μ', kI μ μ' s → μ'.1 26 = nI N → μ'.1 27 = nI (kc + 1) → mSl μ' s (α, clk + α.2.1) kc → P μ') : mW G d ad M_Mo_keep 96 [some (.ref (ad 50)), some (.int (nI g)), some (.int (nI s)), o3, o4] [] μ (mPv P) := by
  have hbl := hα.2.2.2.2.1
  have hblo : zLo α.2.2.2.2.2 := zLo_all zOkc_lo hα.2.2.2.2.2
  refine sMo_keep_96 (by omega) (Nat.le_of_ble_eq_true rfl) (by rw [nI_add]; exact mc_copyRow hC (to := 18 + s) (fr := 4) (by omega) (by decide) (by omega)) ?_
  rintro μ3 ⟨c1, c2, -⟩
  have K3 : kI μ μ3 s := kI.row c1 (Or.inl rfl)
  have P3 : mPw μ3 (18 + s) (zPl α.1) := c2 _ hf
  have i3 : ∀ k, μ3.1 k = μ.1 k := fun k => c1.1 k List.not_mem_nil
  have a3 : ∀ k, k ≠ 6 → k ≠ 7 → k ≠ 8 → μ3.2 k = μ.2 k := fun k a b c => c1.2.1 k List.not_mem_nil a b c
  obtain ⟨v1, v2, v3, v4, v5, v6⟩ := hv
  refine sMo_keep_105 (i1 := g) rfl (by rw [ml_19]; omega) (i := s) rfl (by rw [ml_28]; omega) ?_
  refine sMo_keep_122 (i := s) rfl (by rw [ml_29]; omega) ?_
  refine sMo_keep_132 ?_
  refine sMo_keep_142 (i1 := g) rfl (by rw [ml_18]; omega) (i := 12 + s) (nI_add _ _) (by rw [ml_18]; omega) ?_
  have eT : μ3.1 25 + μ3.2 19 g = nI (clk + α.2.1) := by rw [i3, a3 19 (by decide) (by decide) (by decide), h25, h19, nI_add]
  have e18 : μ3.2 18 g = nI α.2.2.2.2.2.length := by rw [a3 18 (by decide) (by decide) (by decide)]; exact v2
  dsimp only
  rw [updA_n (by decide), updA_n (by decide), eT, e18, i3 27, h27, nI_add, nI_add]
  generalize hB : updA (updA (updA μ3.2 28 s (nI (clk + α.2.1))) 29 s (nI kc)) 18 (12 + s) (nI α.2.2.2.2.2.length) = B
  have K7 : kI μ (upd μ3.1 27 (nI (kc + 1)), B) s := by
    rw [← hB]
    have q1 : kI μ (μ3.1, updA μ3.2 28 s (nI (clk + α.2.1))) s := K3.tr (kI.a (Or.inl ⟨Or.inl rfl, rfl⟩))
    have q2 : kI μ (μ3.1, updA (updA μ3.2 28 s (nI (clk + α.2.1))) 29 s (nI kc)) s := q1.tr (kI.a (Or.inl ⟨Or.inr rfl, rfl⟩))
    have q3 : kI μ (μ3.1, updA (updA (updA μ3.2 28 s (nI (clk + α.2.1))) 29 s (nI kc)) 18 (12 + s) (nI α.2.2.2.2.2.length)) s := q2.tr (kI.a (Or.inr (Or.inl ⟨Or.inl rfl, rfl⟩)))
    exact q3.tr (kI.i (μ := (μ3.1, updA (updA (updA μ3.2 28 s (nI (clk + α.2.1))) 29 s (nI kc)) 18 (12 + s) (nI α.2.2.2.2.2.length))) (k := 27) (by decide))
  have b28 : B 28 s = nI (clk + α.2.1) := by rw [← hB, updA_n (by decide), updA_n (by decide), updA_s, pk_us]
  have b29 : B 29 s = nI kc := by rw [← hB, updA_n (by decide), updA_s, pk_us]
  have b18 : B 18 = upd (μ.2 18) (12 + s) (nI α.2.2.2.2.2.length) := by rw [← hB, updA_s, updA_n (by decide), updA_n (by decide), a3 18 (by decide) (by decide) (by decide)]
  have bo : ∀ k, k ≠ 18 → k ≠ 28 → k ≠ 29 → B k = μ3.2 k := fun k k1 k2 k3 => by rw [← hB, updA_n k1, updA_n k3, updA_n k2]
  have x26 : upd μ3.1 27 (nI (kc + 1)) 26 = nI N := by rw [pk_un (by decide), i3]; exact h26
  refine sMo_keep_159 ?_
  -- the body
  have loop : ∀ m j (μ8 : zMm), j + m = α.2.2.2.2.2.length → kI μ μ8 s → μ8.1 = upd μ3.1 27 (nI (kc + 1)) → (∀ k, k ≠ 17 → μ8.2 k = B k) → (∀ i, i < j → μ8.2 17 ((12 + s) * 1500 + i) = nI (α.2.2.2.2.2.getD i 0)) → mW G d ad M_Mo_keep 162 [some (.ref (ad 50)), some (.int (nI g)), some (.int (nI s)), some (.int (nI (12 + s))), some (.int (nI j))] [] μ8 (mPv P) := by
    intro m
    induction m with
    | zero =>
      intro j μ8 hj k8 f1 f2 f3
      have z18 : μ8.2 18 g = nI α.2.2.2.2.2.length := by rw [f2 18 (by decide), b18, pk_un (by omega)]; exact v2
      refine sMo_keep_162 (i1 := g) rfl (by rw [ml_18]; omega) (fun _ => ?_) (fun z => absurd (show μ8.2 18 g ≤ nI j by rw [z18]; exact nI_le (by omega) (by omega)) z)
      have z23 : μ8.2 23 = μ.2 23 := by rw [f2 23 (by decide), bo 23 (by decide) (by decide) (by decide), a3 23 (by decide) (by decide) (by decide)]
      have z24 : μ8.2 24 = μ.2 24 := by rw [f2 24 (by decide), bo 24 (by decide) (by decide) (by decide), a3 24 (by decide) (by decide) (by decide)]
      have y23 : μ8.2 23 g = zB1 α.2.2.2.1.isSome := by rw [z23]; exact v4
      have y24 : μ8.2 24 g = zB1 α.2.2.2.2.1 := by rw [z24]; exact v6
      refine sMo_keep_205 (i1 := g) rfl (by rw [ml_23]; omega) (i := 12 + s) rfl (by rw [ml_23]; omega) (by rw [y23]; exact zB1_nar _) ?_
      rw [y23]
      have K9 : kI μ (μ8.1, updA μ8.2 23 (12 + s) (zB1 α.2.2.2.1.isSome)) s := k8.tr (kI.a (Or.inr (Or.inl ⟨Or.inr (Or.inl rfl), rfl⟩)))
      -- the end
      have fin : ∀ μ10 : zMm, kI μ μ10 s → μ10.1 = upd μ3.1 27 (nI (kc + 1)) → (∀ k, k ≠ 6 → k ≠ 7 → k ≠ 8 → μ10.2 k = updA μ8.2 23 (12 + s) (zB1 α.2.2.2.1.isSome) k) → mPw μ10 (18 + s) (zPl α.1) → (∀ b, α.2.2.2.1 = some b → mPz μ10 (58 + s) (zPl b)) → mW G d ad M_Mo_keep 238 [some (.ref (ad 50)), some (.int (nI g)), some (.int (nI s)), some (.int (nI (12 + s))), some (.int (nI j))] [] μ10 (mPv P) := by
        intro μ10 k10 g1 g2 g3 g4
        have w24 : μ10.2 24 g = zB1 α.2.2.2.2.1 := by rw [g2 24 (by decide) (by decide) (by decide), updA_n (by decide)]; exact y24
        refine sMo_keep_238 (i1 := g) rfl (by rw [ml_24]; omega) (i := 12 + s) rfl (by rw [ml_24]; omega) (by rw [w24]; exact zB1_nar _) ?_
        rw [w24]
        have K11 : kI μ (μ10.1, updA μ10.2 24 (12 + s) (zB1 α.2.2.2.2.1)) s := k10.tr (kI.a (Or.inr (Or.inl ⟨Or.inr (Or.inr rfl), rfl⟩)))
        refine sMo_keep_250 ⟨rfl, kk _ K11 (by dsimp only; rw [g1]; exact x26) (by dsimp only; rw [g1, pk_us]) ⟨⟨?_, ?_, ?_, ?_, ?_, ?_⟩, ?_, ?_⟩⟩
        · refine g3.ra ⟨?_, ?_, fun i _ => ?_⟩ <;> (dsimp only; rw [updA_n (by decide)])
        · dsimp only; rw [updA_n (by decide), g2 18 (by decide) (by decide) (by decide), updA_n (by decide), f2 18 (by decide), b18, pk_us]
        · dsimp only
          intro i hi
          rw [updA_n (by decide), g2 17 (by decide) (by decide) (by decide), updA_n (by decide)]; exact f3 i (by omega)
        · dsimp only; rw [updA_n (by decide), g2 23 (by decide) (by decide) (by decide), updA_s, pk_us]
        · intro b hb
          have := g4 b hb
          refine ⟨this.1.ra ⟨?_, ?_, fun i _ => ?_⟩, this.2.ra ⟨?_, ?_, fun i _ => ?_⟩⟩ <;> (dsimp only; rw [updA_n (by decide)])
        · dsimp only; rw [updA_s, pk_us]
        · dsimp only; rw [updA_n (by decide), g2 28 (by decide) (by decide) (by decide), updA_n (by decide), f2 28 (by decide)]; exact b28
        · dsimp only; rw [updA_n (by decide), g2 29 (by decide) (by decide) (by decide), updA_n (by decide), f2 29 (by decide)]; exact b29
      have x6 : ∀ k, k = 6 ∨ k = 7 ∨ k = 8 → updA μ8.2 23 (12 + s) (zB1 α.2.2.2.1.isSome) k = μ3.2 k := fun k hk => by
        rw [updA_n (by omega), f2 k (by omega), bo k (by omega) (by omega) (by omega)]
      have rr : ∀ r, mRa μ3 (μ8.1, updA μ8.2 23 (12 + s) (zB1 α.2.2.2.1.isSome)) r := fun r => ⟨by dsimp only; rw [x6 7 (by omega)], by dsimp only; rw [x6 8 (by omega)], fun i _ => by dsimp only; rw [x6 6 (by omega)]⟩
      have u23 : updA μ8.2 23 (12 + s) (zB1 α.2.2.2.1.isSome) 23 g = zB1 α.2.2.2.1.isSome := by rw [updA_s, pk_un (by omega)]; exact y23
      cases hto : α.2.2.2.1 with
      | none =>
        rw [hto] at u23 K9
        refine sMo_keep_217 (i1 := g) rfl (by rw [ml_23]; omega) (fun _ => ?_) (fun z => absurd (by dsimp only; rw [u23]; decide) z)
        rw [hto] at fin rr
        exact fin _ K9 f1 (fun _ _ _ _ => rfl) (P3.ra (rr _)) (fun b hb => by cases hb)
      | some b =>
        rw [hto] at u23 K9
        refine sMo_keep_217 (i1 := g) rfl (by rw [ml_23]; omega) (fun z => absurd (show zB1 (some b).isSome = 0 by rw [← u23]; exact z) (by show ¬ zB1 true = 0; decide)) (fun _ => ?_)
        refine sMo_keep_226 (by omega) (Nat.le_of_ble_eq_true rfl) (by rw [nI_add, nI_add]; exact mc_copyRow hC (to := 58 + s) (fr := 46 + g) (by omega) (by omega) (by omega)) ?_
        rintro μ10 ⟨d1, d2, d3⟩
        rw [hto] at fin rr
        have hz := v5 b hto
        have r46 : mRa μ μ3 (46 + g) := c1.2.2 _ (fun z => by have := List.mem_singleton.mp z; omega)
        refine fin μ10 (K9.tr (kI.row d1 (Or.inr rfl))) ?_ (fun k a b c => d1.2.1 k List.not_mem_nil a b c) ?_ (fun b' hb => ?_)
        · rw [← f1]
          funext k
          exact d1.1 k List.not_mem_nil
        · exact (P3.ra (rr _)).ra (d1.2.2 _ (fun z => by have := List.mem_singleton.mp z; omega))
        · cases hb
          exact ⟨d2 _ ((hz.1.ra r46).ra (rr _)), d3 _ ((hz.2.ra r46).ra (rr _))⟩
    | succ m ih =>
      intro j μ8 hj k8 f1 f2 f3
      have z18 : μ8.2 18 g = nI α.2.2.2.2.2.length := by rw [f2 18 (by decide), b18, pk_un (by omega)]; exact v2
      refine sMo_keep_162 (i1 := g) rfl (by rw [ml_18]; omega) (fun z => absurd (show nI α.2.2.2.2.2.length ≤ nI j by rw [← z18]; exact z) (nI_ge (by omega) (by omega))) (fun _ => ?_)
      refine sMo_keep_173 (i1 := g * 1500 + j) (by rw [pk_mul, nI_add]) (by rw [ml_17]; omega) (i := (12 + s) * 1500 + j) (by rw [pk_mul, nI_add]) (by rw [ml_17]; omega) ?_
      refine sMo_keep_199 ?_
      rw [nI_add]
      have e17 : μ8.2 17 (g * 1500 + j) = nI (α.2.2.2.2.2.getD j 0) := by
        rw [(k8.1 g (by omega)).2.2.2 j (by omega)]; exact v3 j (by omega)
      refine ih (j + 1) _ (by omega) (k8.tr (kI.a (Or.inr (Or.inr ⟨rfl, (by omega), (by omega)⟩)))) f1 (fun k hk => ?_) (fun i hi => ?_)
      · dsimp only; rw [updA_n hk]; exact f2 k hk
      · dsimp only
        rw [updA_s]
        by_cases q : i = j
        · rw [q, pk_us, e17, n8 (hblo.at j)]
        · rw [pk_un (by omega)]; exact f3 i (by omega)
  exact loop α.2.2.2.2.2.length 0 _ (by omega) K7 rfl (fun _ _ => rfl) (fun i hi => absurd hi (Nat.not_lt_zero _))
end MX
