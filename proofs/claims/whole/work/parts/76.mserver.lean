/-! The model's server. -/
def mXm (μ μ' : zMm) (i : Nat) : Prop := μ'.2 19 i = μ.2 19 i ∧ μ'.2 21 i = μ.2 21 i ∧ μ'.2 22 i = μ.2 22 i ∧ ∀ j, j < 16 → μ'.2 20 (16 * i + j) = μ.2 20 (16 * i + j)
theorem mXm.rf {μ : zMm} {i : Nat} : mXm μ μ i := ⟨rfl, rfl, rfl, fun _ _ => rfl⟩
theorem mXm.tr {μ μ1 μ2 : zMm} {i : Nat} (h : mXm μ μ1 i) (g : mXm μ1 μ2 i) : mXm μ μ2 i := ⟨g.1.trans h.1, g.2.1.trans h.2.1, g.2.2.1.trans h.2.2.1, fun j hj => (g.2.2.2 j hj).trans (h.2.2.2 j hj)⟩
/-- only the answer a has changed -/
def sI (μ μ' : zMm) (a : Nat) : Prop := (∀ i, i ≠ a → mSm μ μ' i ∧ mXm μ μ' i) ∧ mFm [16] [17, 18, 19, 20, 21, 22, 23, 24] [6 + a, 46 + a] μ μ'
theorem sI.rf {μ : zMm} {a : Nat} : sI μ μ a := ⟨fun _ _ => ⟨mSm.rf, mXm.rf⟩, mFm.rf⟩
theorem sI.tr {μ μ1 μ2 : zMm} {a : Nat} (h : sI μ μ1 a) (g : sI μ1 μ2 a) : sI μ μ2 a := ⟨fun i hi => ⟨(h.1 i hi).1.tr (g.1 i hi).1, (h.1 i hi).2.tr (g.1 i hi).2⟩, h.2.tr g.2⟩
theorem sI.row {μ μ1 : zMm} {a r : Nat} (h : mFm [] [] [r] μ μ1) (hr : r = 6 + a ∨ r = 46 + a) : sI μ μ1 a := by
  have e : ∀ k, k ≠ 6 → k ≠ 7 → k ≠ 8 → μ1.2 k = μ.2 k := fun k a b c => h.2.1 k List.not_mem_nil a b c
  refine ⟨fun i _ => ⟨⟨by rw [e 18 (by decide) (by decide) (by decide)], by rw [e 23 (by decide) (by decide) (by decide)], by rw [e 24 (by decide) (by decide) (by decide)], fun j _ => by rw [e 17 (by decide) (by decide) (by decide)]⟩, ⟨by rw [e 19 (by decide) (by decide) (by decide)], by rw [e 21 (by decide) (by decide) (by decide)], by rw [e 22 (by decide) (by decide) (by decide)], fun j _ => by rw [e 20 (by decide) (by decide) (by decide)]⟩⟩, h.mono (fun _ z => by cases z) (fun _ z => by cases z) (fun k z => by rw [List.mem_singleton.mp z]; rcases hr with w | w <;> simp [w])⟩
theorem sI.i {μ : zMm} {a : Nat} {v : Int32} : sI μ (upd μ.1 16 v, μ.2) a := ⟨fun _ _ => ⟨mSm.rf, mXm.rf⟩, mFm.rf.pi (by decide)⟩
theorem sI.a {μ : zMm} {a k i : Nat} {v : Int32} (hk : (k = 18 ∨ k = 19 ∨ k = 21 ∨ k = 22 ∨ k = 23 ∨ k = 24) ∧ i = a ∨ k = 17 ∧ a * 1500 ≤ i ∧ i < a * 1500 + 1500 ∨ k = 20 ∧ 16 * a ≤ i ∧ i < 16 * a + 16) : sI μ (μ.1, updA μ.2 k i v) a := by
  have cell : ∀ k' i', ¬ (k' = k ∧ i' = i) → updA μ.2 k i v k' i' = μ.2 k' i' := fun k' i' hn => by
    by_cases e : k' = k
    · subst e
      rw [updA_s, pk_un (fun z => hn ⟨rfl, z⟩)]
    · rw [updA_n e]
  refine ⟨fun i' hi' => ⟨⟨cell 18 i' (by omega), cell 23 i' (by omega), cell 24 i' (by omega), fun j hj => cell 17 _ (by omega)⟩, ⟨cell 19 i' (by omega), cell 21 i' (by omega), cell 22 i' (by omega), fun j hj => cell 20 _ (by omega)⟩⟩, mFm.rf.pa ?_ (by omega) (by omega) (by omega)⟩
  simp only [List.mem_cons, List.not_mem_nil, or_false]; omega
theorem mAx.xm {μ μ' : zMm} {i : Nat} {α : zAn} (h : mAx μ i α) (hw : zAnW α) (m : mXm μ μ' i) : mAx μ' i α := by
  obtain ⟨h1, h2, h3, h4⟩ := h
  obtain ⟨m1, m2, m3, m4⟩ := m
  refine ⟨fun z => by rw [m1]; exact h1 z, fun z => by rw [m1]; exact h2 z, m2.trans h3, fun z => ?_⟩
  obtain ⟨q1, q2, q3⟩ := h4 z
  have hn := hw.2.2.1.resolve_left (fun w => z w.1)
  have l1 := (zNm_all hn.1).2.1
  have l2 := (zNm_all hn.2).2.1
  refine ⟨m3.trans q1, fun j hj => ?_, fun j hj => ?_⟩
  · rw [m4 j (by omega)]; exact q2 j hj
  · rw [Nat.add_assoc, m4 (8 + j) (by omega), ← Nat.add_assoc]; exact q3 j hj
theorem rA.put {μ μ' : zMm} {as : List zAn} {a : Nat} {α : zAn} (h : rA μ as) (hw : ∀ x ∈ as, zAnW x) (hl : as.length ≤ 12) (ha : a ≤ as.length) (ha12 : a < 12) (h16 : μ'.1 16 = nI (if a < as.length then as.length else as.length + 1)) (hs : sI μ μ' a) (h1 : mSv μ' a (6 + a) (46 + a) α) (h2 : mAx μ' a α) : rA μ' (if a < as.length then as.set a α else as ++ [α]) := by
  have oth : ∀ e (he : e < as.length), e ≠ a → mSv μ' e (6 + e) (46 + e) as[e] ∧ mAx μ' e as[e] := fun e he hne => by
    obtain ⟨b1, b2⟩ := h.2 e he
    obtain ⟨m1, m2⟩ := hs.1 e hne
    have hwe := hw _ (List.getElem_mem he)
    exact ⟨b1.sm hwe m1 (hs.2.2.2 _ (by simp only [List.mem_cons, List.not_mem_nil, or_false]; omega)) (hs.2.2.2 _ (by simp only [List.mem_cons, List.not_mem_nil, or_false]; omega)), b2.xm hwe m2⟩
  by_cases q : a < as.length
  · rw [if_pos q] at h16 ⊢
    refine ⟨by rw [List.length_set]; exact h16, fun e he => ?_⟩
    rw [List.length_set] at he
    by_cases w : e = a
    · subst w
      rw [List.getElem_set_self]; exact ⟨h1, h2⟩
    · rw [List.getElem_set_ne (Ne.symm w)]
      exact oth e he w
  · rw [if_neg q] at h16 ⊢
    refine ⟨by rw [List.length_append]; exact h16, fun e he => ?_⟩
    rw [List.length_append] at he
    simp only [List.length_cons, List.length_nil] at he
    by_cases w : e = a
    · have hec : e = as.length := (by omega)
      have : (as ++ [α])[e]'(by simp; omega) = α := by simp [hec]
      rw [this, w]; exact ⟨h1, h2⟩
    · have hlt : e < as.length := (by omega)
      rw [List.getElem_append_left hlt]
      exact oth e hlt w
theorem rK.sm {μ μ' : zMm} {n : Nat} {ks : List zKe} (h : rK μ n ks) (hl : ks.length ≤ 8) (hw : ∀ k ∈ ks, zAnW k.1 ∧ 1 ≤ k.2) {a : Nat} (ha : a < 12) (s : sI μ μ' a) : rK μ' n ks := by
  obtain ⟨L, kc, a1, a2, a3, a4, a5, a6, a7⟩ := h
  refine ⟨L, kc, a1, (s.2.1 26 (by decide)).trans a2, (s.2.1 27 (by decide)).trans a3, a4, a5, fun e he => ?_, a7⟩
  obtain ⟨b1, b2, b3, b4, b5⟩ := a6 e he
  have hwe := (hw e.2.2 (by rw [← a1]; exact List.mem_map_of_mem he)).1
  refine ⟨b1, b2, b3.sm hwe (s.1 _ (by omega)).1 (s.2.2.2 _ (by simp only [List.mem_cons, List.not_mem_nil, or_false]; omega)) (s.2.2.2 _ (by simp only [List.mem_cons, List.not_mem_nil, or_false]; omega)), ?_, ?_⟩
  · rw [s.2.ar 28 (by decide) (by decide) (by decide) (by decide)]; exact b4
  · rw [s.2.ar 29 (by decide) (by decide) (by decide) (by decide)]; exact b5
theorem mRel.ans {μ μ' : zMm} {T : zTT} {D : zDD} {Q : zRR} {C : zCC} {as : List zAn} {a : Nat} (h : mRel μ T D Q C) (hD : zDDW D) (ha : a < 12) (s : sI μ μ' a) (hA : rA μ' as) : mRel μ' T (as, D.2) Q C := by
  obtain ⟨h1, h2, h3, h4, h5, h6, h7, h8, h9, h10⟩ := h
  have f := s.2
  exact ⟨h1.fm f (by decide) (by decide), h2.fm f (by decide) (by decide), h3.fm f (by simp only [List.mem_cons, List.not_mem_nil, or_false]; omega), h4.fm f (by simp only [List.mem_cons, List.not_mem_nil, or_false]; omega), hA, h6.fm f (by decide) (fun k a b => (by simp only [List.mem_cons, List.not_mem_nil, or_false]; omega)), h7.sm hD.2.2.2.2.2.2.1 hD.2.2.2.2.2.1 ha s, (f.1 25 (by decide)).trans h8, h9.fm f (by decide) (by decide) (by decide) (by simp only [List.mem_cons, List.not_mem_nil, or_false]; omega), h10.fm f (fun k a b => (by simp only [List.mem_cons, List.not_mem_nil, or_false]; omega)) (by decide) (by simp only [List.mem_cons, List.not_mem_nil, or_false]; omega)⟩
section NB
variable {G : zG} {d : Nat} {ad : Nat → Nat} {μ : zMm} {t : List Nat} {A : zA} {F : zFe} {T : zTT} {D : zDD} {Q : zRR} {C : zCC}
theorem mw_sstore (hC : zCs G) (hd : 1 ≤ d) {a p1 : Nat} (ha : a < 12) (hp1 : p1 ≤ t.length) (hb : t.length - p1 ≤ 1500) (h3 : μ.1 3 = nI t.length) (ht : mN (μ.2 2) 0 t) (hlo : zLo t) (htl : t.length ≤ 2000) (hA : mPw μ 3 (zPl A)) (hN : mNew μ F) (hF : zFeW F) {o1 o4 : Option Value} {P : Option Value → zMm → Prop} (kk : ∀ μ', sI μ μ' a → μ'.1 16 = μ.1 16 → mSv μ' a (6 + a) (46 + a) (A, F.1.getD 0, F.2.1, F.2.2.1, F.2.2.2, t.drop p1) → mAx μ' a (A, F.1.getD 0, F.2.1, F.2.2.1, F.2.2.2, t.drop p1) → P (some (.int (μ'.1 16))) μ') : mW G d ad M_Mo_server 252 [some (.ref (ad 50)), o1, some (.int (nI p1)), some (.int (nI a)), o4] [] μ P := by
  have hdl : (t.drop p1).length = t.length - p1 := List.length_drop
  have hblo : zLo (t.drop p1) := fun c hc => hlo c (List.mem_of_mem_drop hc)
  obtain ⟨w1, w2, w3, w4, w5, w6⟩ := hN
  refine sMo_server_252 (by omega) (Nat.le_of_ble_eq_true rfl) (by rw [nI_add]; exact mc_copyRow hC (to := 6 + a) (fr := 3) (by omega) (by decide) (by omega)) ?_
  rintro μ1 ⟨c1, c2, -⟩
  have P1 : mPw μ1 (6 + a) (zPl A) := c2 _ hA
  have i1 : ∀ k, μ1.1 k = μ.1 k := fun k => c1.1 k List.not_mem_nil
  have a1 : ∀ k, k ≠ 6 → k ≠ 7 → k ≠ 8 → μ1.2 k = μ.2 k := fun k a b c => c1.2.1 k List.not_mem_nil a b c
  have S1 : sI μ μ1 a := sI.row c1 (Or.inl rfl)
  refine sMo_server_261 (i := a) rfl (by rw [ml_18]; omega) ?_
  rw [i1 3, h3, pk_sub hp1]
  refine sMo_server_273 ?_
  have S2 : sI μ (μ1.1, updA μ1.2 18 a (nI (t.length - p1))) a := S1.tr (sI.a (Or.inl ⟨Or.inl rfl, rfl⟩))
  -- behind the body
  have aft : ∀ (μ3 : zMm) (o4 : Option Value), sI μ μ3 a → (∀ k, μ3.1 k = μ.1 k) → (∀ k, k ≠ 17 → k ≠ 18 → μ3.2 k = μ1.2 k) → μ3.2 18 a = nI (t.length - p1) → (∀ i, i < t.length - p1 → μ3.2 17 (a * 1500 + i) = nI ((t.drop p1).getD i 0)) → mW G d ad M_Mo_server 315 [some (.ref (ad 50)), o1, some (.int (nI p1)), some (.int (nI a)), o4] [] μ3 P := by
    intro μ3 o4 S3 i3 b3 b18 b17
    refine sMo_server_315 (i := a) rfl (by rw [ml_19]; omega) ?_
    refine sMo_server_325 (i := a) rfl (by rw [ml_21]; omega) ?_
    refine sMo_server_335 (i := a) rfl (by rw [ml_22]; omega) ?_
    refine sMo_server_345 ?_
    dsimp only
    rw [i3 38, i3 39, i3 40]
    have q1 : sI μ (μ3.1, updA μ3.2 19 a (μ.1 38)) a := S3.tr (sI.a (Or.inl ⟨Or.inr (Or.inl rfl), rfl⟩))
    have q2 : sI μ (μ3.1, updA (updA μ3.2 19 a (μ.1 38)) 21 a (μ.1 39)) a := q1.tr (sI.a (Or.inl ⟨Or.inr (Or.inr (Or.inl rfl)), rfl⟩))
    have S4 : sI μ (μ3.1, updA (updA (updA μ3.2 19 a (μ.1 38)) 21 a (μ.1 39)) 22 a (μ.1 40)) a := q2.tr (sI.a (Or.inl ⟨Or.inr (Or.inr (Or.inr (Or.inl rfl))), rfl⟩))
    generalize hB : updA (updA (updA μ3.2 19 a (μ.1 38)) 21 a (μ.1 39)) 22 a (μ.1 40) = B at S4
    have b19 : B 19 a = μ.1 38 := by rw [← hB, updA_n (by decide), updA_n (by decide), updA_s, pk_us]
    have b21 : B 21 a = μ.1 39 := by rw [← hB, updA_n (by decide), updA_s, pk_us]
    have b22 : B 22 a = μ.1 40 := by rw [← hB, updA_s, pk_us]
    have bo : ∀ k, k ≠ 19 → k ≠ 21 → k ≠ 22 → B k = μ3.2 k := fun k k1 k2 k3 => by rw [← hB, updA_n k3, updA_n k2, updA_n k1]
    -- behind the cookie
    have two : ∀ (μ5 : zMm) (o4 : Option Value), sI μ μ5 a → (∀ k, μ5.1 k = μ.1 k) → (∀ k, k ≠ 20 → μ5.2 k = B k) → (∀ i, i < 16 → μ5.2 20 (16 * a + i) = (μ.2 43 i).toInt8.toInt32) → mW G d ad M_Mo_server 380 [some (.ref (ad 50)), o1, some (.int (nI p1)), some (.int (nI a)), o4] [] μ5 P := by
      intro μ5 o4 S5 i5 b5 b20
      -- all of it
      have fin : ∀ (μ6 : zMm), sI μ μ6 a → (∀ k, μ6.1 k = μ.1 k) → (∀ k, k ≠ 6 → k ≠ 7 → k ≠ 8 → k ≠ 23 → k ≠ 24 → μ6.2 k = μ5.2 k) → mPw μ6 (6 + a) (zPl A) → (∀ b, F.2.2.1 = some b → mPz μ6 (46 + a) (zPl b)) → μ6.2 23 a = zB1 F.2.2.1.isSome → μ6.2 24 a = zB1 F.2.2.2 → P (some (.int (μ6.1 16))) μ6 := by
        intro μ6 S6 i6 b6 P6 Z6 y23 y24
        have e : ∀ k, k ≠ 6 → k ≠ 7 → k ≠ 8 → k ≠ 23 → k ≠ 24 → k ≠ 20 → μ6.2 k = B k := fun k k1 k2 k3 k4 k5 k6 => (b6 k k1 k2 k3 k4 k5).trans (b5 k k6)
        refine kk μ6 S6 (i6 16) ⟨P6, ?_, ?_, y23, Z6, y24⟩ ⟨fun z => ?_, fun z => ?_, ?_, fun z => ?_⟩
        · rw [e 18 (by decide) (by decide) (by decide) (by decide) (by decide) (by decide), bo 18 (by decide) (by decide) (by decide), b18, hdl]
        · rw [e 17 (by decide) (by decide) (by decide) (by decide) (by decide) (by decide), bo 17 (by decide) (by decide) (by decide)]
          intro i hi
          exact b17 i (by rw [← hdl]; exact hi)
        · rw [e 19 (by decide) (by decide) (by decide) (by decide) (by decide) (by decide), b19, w1]
          cases hf : F.1 with
          | none => exact (by decide : (-1 : Int32) ≤ 0)
          | some n =>
            rw [hf] at z
            have : n = 0 := z
            rw [this]; decide
        · rw [e 19 (by decide) (by decide) (by decide) (by decide) (by decide) (by decide), b19, w1]
          cases hf : F.1 with
          | none => rw [hf] at z; exact absurd rfl z
          | some n => rfl
        · rw [e 21 (by decide) (by decide) (by decide) (by decide) (by decide) (by decide), b21]; exact w2
        · obtain ⟨x1, x2, x3⟩ := w3 z
          have hn := hF.2.1.resolve_left (fun w => z w.1)
          have l1 := (zNm_all hn.1).2.1
          have l2 := (zNm_all hn.2).2.1
          have e20 : μ6.2 20 = μ5.2 20 := b6 20 (by decide) (by decide) (by decide) (by decide) (by decide)
          refine ⟨?_, fun i hi => ?_, fun i hi => ?_⟩
          · rw [e 22 (by decide) (by decide) (by decide) (by decide) (by decide) (by decide), b22]; exact x1
          · have hi' : i < F.2.1.1.length := hi
            have q := x2 i hi
            rw [Nat.zero_add] at q
            rw [e20, b20 i (by omega), q, n8 ((zNm_lo hn.1).at i)]
          · have hi' : i < F.2.1.2.length := hi
            rw [e20, Nat.add_assoc, b20 (8 + i) (by omega), x3 i hi, n8 ((zNm_lo hn.2).at i)]
      have P5 : mPw μ5 (6 + a) (zPl A) := P1.ra ⟨by rw [b5 7 (by decide), bo 7 (by decide) (by decide) (by decide), b3 7 (by decide) (by decide)], by rw [b5 8 (by decide), bo 8 (by decide) (by decide) (by decide), b3 8 (by decide) (by decide)], fun i _ => by rw [b5 6 (by decide), bo 6 (by decide) (by decide) (by decide), b3 6 (by decide) (by decide)]⟩
      have r5 : ∀ r, mRa μ1 μ5 r := fun r => ⟨by rw [b5 7 (by decide), bo 7 (by decide) (by decide) (by decide), b3 7 (by decide) (by decide)], by rw [b5 8 (by decide), bo 8 (by decide) (by decide) (by decide), b3 8 (by decide) (by decide)], fun i _ => by rw [b5 6 (by decide), bo 6 (by decide) (by decide) (by decide), b3 6 (by decide) (by decide)]⟩
      -- open
      have opn : ∀ (μ6 : zMm) (o4 : Option Value), sI μ μ6 a → (∀ k, μ6.1 k = μ.1 k) → (∀ k, k ≠ 6 → k ≠ 7 → k ≠ 8 → k ≠ 23 → μ6.2 k = μ5.2 k) → mPw μ6 (6 + a) (zPl A) → (∀ b, F.2.2.1 = some b → mPz μ6 (46 + a) (zPl b)) → μ6.2 23 a = zB1 F.2.2.1.isSome → mW G d ad M_Mo_server 416 [some (.ref (ad 50)), o1, some (.int (nI p1)), some (.int (nI a)), o4] [] μ6 P := by
        intro μ6 o4 S6 i6 b6 P6 Z6 y23
        have lst : ∀ v : Int32, v = zB1 F.2.2.2 → P (some (.int (μ6.1 16))) (μ6.1, updA μ6.2 24 a v) := fun v hv => by
          have rr : ∀ r, mRa μ6 (μ6.1, updA μ6.2 24 a v) r := fun r => ⟨by dsimp only; rw [updA_n (by decide)], by dsimp only; rw [updA_n (by decide)], fun i _ => by dsimp only; rw [updA_n (by decide)]⟩
          refine fin (μ6.1, updA μ6.2 24 a v) (S6.tr (sI.a (Or.inl ⟨Or.inr (Or.inr (Or.inr (Or.inr (Or.inr rfl)))), rfl⟩))) i6 (fun k k1 k2 k3 k4 k5 => ?_) (P6.ra (rr _)) (fun b hb => ⟨(Z6 b hb).1.ra (rr _), (Z6 b hb).2.ra (rr _)⟩) ?_ ?_
          · dsimp only; rw [updA_n k5]; exact b6 k k1 k2 k3 k4
          · dsimp only; rw [updA_n (by decide)]; exact y23
          · dsimp only; rw [updA_s, pk_us]; exact hv
        cases hO : F.2.2.2 with
        | true =>
          rw [hO] at w6 lst
          refine sMo_server_416 (fun z => absurd (show zB1 true ≤ 0 by rw [← w6, ← i6 42]; exact z) (by decide)) (fun _ => ?_)
          exact sMo_server_428 mk_24 (i := a) rfl (by rw [ml_24]; omega) rfl (sMo_server_434 (lst (nI 1) (by decide)))
        | false =>
          rw [hO] at w6 lst
          refine sMo_server_416 (fun _ => ?_) (fun z => absurd (show μ6.1 42 ≤ 0 by rw [i6 42, w6]; decide) z)
          exact sMo_server_432 mk_24 (i := a) rfl (by rw [ml_24]; omega) rfl (sMo_server_434 (lst (nI 0) (by decide)))
      have rr : ∀ v r, mRa μ5 (μ5.1, updA μ5.2 23 a v) r := fun v r => ⟨by dsimp only; rw [updA_n (by decide)], by dsimp only; rw [updA_n (by decide)], fun i _ => by dsimp only; rw [updA_n (by decide)]⟩
      have S6 : ∀ v, sI μ (μ5.1, updA μ5.2 23 a v) a := fun v => S5.tr (sI.a (Or.inl ⟨Or.inr (Or.inr (Or.inr (Or.inr (Or.inl rfl)))), rfl⟩))
      cases hT : F.2.2.1 with
      | none =>
        rw [hT] at w4 opn
        refine sMo_server_380 (fun _ => ?_) (fun z => absurd (show μ5.1 41 ≤ 0 by rw [i5 41, w4]; decide) z)
        refine sMo_server_396 mk_23 (i := a) rfl (by rw [ml_23]; omega) rfl ?_
        refine sMo_server_398 (i1 := a) rfl (by rw [ml_23]; omega) (fun _ => ?_) (fun z => absurd (show updA μ5.2 23 a (nI 0) 23 a = 0 by rw [updA_s, pk_us]; decide) z)
        refine opn _ _ (S6 _) i5 (fun k k1 k2 k3 k4 => ?_) (P5.ra (rr _ _)) (fun b hb => by cases hb) ?_
        · dsimp only; rw [updA_n k4]
        · dsimp only; rw [updA_s, pk_us]; decide
      | some b =>
        rw [hT] at w4 opn
        refine sMo_server_380 (fun z => absurd (show zB1 (some b).isSome ≤ 0 by rw [← w4, ← i5 41]; exact z) (by show ¬ zB1 true ≤ 0; decide)) (fun _ => ?_)
        refine sMo_server_392 mk_23 (i := a) rfl (by rw [ml_23]; omega) rfl ?_
        refine sMo_server_398 (i1 := a) rfl (by rw [ml_23]; omega) (fun z => absurd (show nI 1 = 0 by have : updA μ5.2 23 a (nI 1) 23 a = 0 := z; rw [updA_s, pk_us] at this; exact this) (by decide)) (fun _ => ?_)
        refine sMo_server_407 (by omega) (Nat.le_of_ble_eq_true rfl) (by rw [nI_add]; exact mc_copyRow hC (to := 46 + a) (fr := 4) (by omega) (by decide) (by omega)) ?_
        rintro μ7 ⟨d1, d2, d3⟩
        obtain ⟨z1, z2⟩ := w5 b hT
        have r14 : mRa μ μ1 4 := c1.2.2 4 (fun z => by have := List.mem_singleton.mp z; omega)
        have zp : mPz μ 4 (zPl b) := ⟨z1, z2, (fun j hj => absurd hj (Nat.not_lt_zero _)), Nat.zero_le _, (fun c hc => by cases hc)⟩
        refine opn μ7 _ ((S6 _).tr (sI.row d1 (Or.inr rfl))) (fun k => (d1.1 k List.not_mem_nil).trans (i5 k)) (fun k k1 k2 k3 k4 => ?_) (((P5.ra (rr _ _)).ra (d1.2.2 _ (fun z => by have := List.mem_singleton.mp z; omega)))) (fun b' hb => ?_) ?_
        · rw [d1.2.1 k List.not_mem_nil k1 k2 k3]
          dsimp only; rw [updA_n k4]
        · cases hb
          exact ⟨d2 _ (((zp.1.ra r14).ra (r5 4)).ra (rr _ _)), d3 _ (((zp.2.ra r14).ra (r5 4)).ra (rr _ _))⟩
        · rw [d1.2.1 23 List.not_mem_nil (by decide) (by decide) (by decide)]
          dsimp only; rw [updA_s, pk_us]; exact zB1_t.symm
    have e43 : B 43 = μ.2 43 := by rw [bo 43 (by decide) (by decide) (by decide), b3 43 (by decide) (by decide), a1 43 (by decide) (by decide) (by decide)]
    have loop : ∀ m j (μ5 : zMm), j + m = 16 → sI μ μ5 a → (∀ k, μ5.1 k = μ.1 k) → (∀ k, k ≠ 20 → μ5.2 k = B k) → (∀ i, i < j → μ5.2 20 (16 * a + i) = (μ.2 43 i).toInt8.toInt32) → mW G d ad M_Mo_server 348 [some (.ref (ad 50)), o1, some (.int (nI p1)), some (.int (nI a)), some (.int (nI j))] [] μ5 P := by
      intro m
      induction m with
      | zero =>
        intro j μ5 hj S5 i5 b5 b20
        exact sMo_server_348 (fun _ => two μ5 _ S5 i5 b5 (fun i hi => b20 i (by omega))) (fun z => absurd (nI_le (by omega) (by omega)) z)
      | succ m ih =>
        intro j μ5 hj S5 i5 b5 b20
        refine sMo_server_348 (fun z => absurd z (nI_ge (by omega) (by omega))) (fun _ => ?_)
        refine sMo_server_355 (i1 := j) rfl (by rw [ml_43]; omega) (i := 16 * a + j) (by rw [pk_mul, nI_add]) (by rw [ml_20]; omega) ?_
        refine sMo_server_374 ?_
        rw [nI_add, b5 43 (by decide), e43]
        refine ih (j + 1) _ (by omega) (S5.tr (sI.a (Or.inr (Or.inr ⟨rfl, (by omega), (by omega)⟩)))) i5 (fun k hk => ?_) (fun i hi => ?_)
        · dsimp only; rw [updA_n hk]; exact b5 k hk
        · dsimp only
          rw [updA_s]
          by_cases q : i = j
          · rw [q, pk_us]
          · rw [pk_un (by omega)]; exact b20 i (by omega)
    exact loop 16 0 _ (by omega) S4 i3 (fun _ _ => rfl) (fun i hi => absurd hi (Nat.not_lt_zero _))
  have loop : ∀ m j (μ3 : zMm), j + m = t.length - p1 → sI μ μ3 a → (∀ k, μ3.1 k = μ.1 k) → (∀ k, k ≠ 17 → k ≠ 18 → μ3.2 k = μ1.2 k) → μ3.2 18 a = nI (t.length - p1) → (∀ i, i < j → μ3.2 17 (a * 1500 + i) = nI ((t.drop p1).getD i 0)) → mW G d ad M_Mo_server 276 [some (.ref (ad 50)), o1, some (.int (nI p1)), some (.int (nI a)), some (.int (nI j))] [] μ3 P := by
    intro m
    induction m with
    | zero =>
      intro j μ3 hj S3 i3 b3 b18 b17
      exact sMo_server_276 (i1 := a) rfl (by rw [ml_18]; omega) (fun _ => aft μ3 _ S3 i3 b3 b18 (fun i hi => b17 i (by omega))) (fun z => absurd (show μ3.2 18 a ≤ nI j by rw [b18]; exact nI_le (by omega) (by omega)) z)
    | succ m ih =>
      intro j μ3 hj S3 i3 b3 b18 b17
      refine sMo_server_276 (i1 := a) rfl (by rw [ml_18]; omega) (fun z => absurd (show nI (t.length - p1) ≤ nI j by rw [← b18]; exact z) (nI_ge (by omega) (by omega))) (fun _ => ?_)
      have e2 : μ3.2 2 (p1 + j) = nI ((t.drop p1).getD j 0) := by
        rw [b3 2 (by decide) (by decide), a1 2 (by decide) (by decide) (by decide), getD_drop]
        have := ht (p1 + j) (by omega)
        rw [Nat.zero_add] at this
        exact this
      refine sMo_server_287 (i1 := p1 + j) (nI_add _ _) (by rw [ml_2]; omega) (i := a * 1500 + j) (by rw [pk_mul, nI_add]) (by rw [ml_17]; omega) ?_
      refine sMo_server_309 ?_
      rw [nI_add, e2, n8 (hblo.at j)]
      refine ih (j + 1) _ (by omega) (S3.tr (sI.a (Or.inr (Or.inl ⟨rfl, (by omega), (by omega)⟩)))) i3 (fun k k1 k2 => ?_) ?_ (fun i hi => ?_)
      · dsimp only; rw [updA_n k1]; exact b3 k k1 k2
      · dsimp only; rw [updA_n (by decide)]; exact b18
      · dsimp only
        rw [updA_s]
        by_cases q : i = j
        · rw [q, pk_us]
        · rw [pk_un (by omega)]; exact b17 i (by omega)
  refine loop (t.length - p1) 0 _ (by omega) S2 i1 (fun k k1 k2 => ?_) ?_ (fun i hi => absurd hi (Nat.not_lt_zero _))
  · dsimp only; rw [updA_n k2]
  · dsimp only; rw [updA_s, pk_us]
end NB
