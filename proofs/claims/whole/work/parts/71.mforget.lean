section MV
variable {G : zG} {d : Nat} {ad : Nat → Nat} {μ μ' : zMm} {c : Nat} {t s : List Nat} {A : zA} {cs : List zCk} {T : zTT} {D : zDD} {Q : zRR} {C : zCC}
theorem mRel.jar (h : mRel μ T D Q C) (hD : zDDW D) (f : mFm [30] [31, 32, 33, 34] [] μ μ') (hc : rC μ' cs) : mRel μ' T (D.1, cs, D.2.2) Q C := by
  obtain ⟨h1, h2, h3, h4, h5, h6, h7, h8, h9, h10⟩ := h
  exact ⟨h1.fm f (by decide) (by decide), h2.fm f (by decide) (by decide), h3.fm f (by decide), h4.fm f (by decide), h5.fm f hD.2.1 (by decide) (fun k a b => (by simp only [List.mem_cons, List.not_mem_nil, or_false]; omega)) (fun k _ => List.not_mem_nil), hc, h7.fm f hD.2.2.2.2.2.2.1 (by decide) (by decide) (by decide) (by decide) (by decide) (by decide) (by decide) (by decide) (fun k _ => List.not_mem_nil), (f.1 25 (by decide)).trans h8, h9.fm f (by decide) (by decide) (by decide) (by decide), h10.fm f (fun k a b => (by simp only [List.mem_cons, List.not_mem_nil, or_false]; omega)) (by decide) (by decide)⟩
theorem mCk.mv {i j : Nat} {k : zCk} (h : mCk μ i k) (hw : zCkW k) (e1 : μ'.2 32 j = μ.2 32 i) (e2 : μ'.2 33 j = μ.2 33 i) (e3 : μ'.2 34 j = μ.2 34 i) (e4 : ∀ q, q < 24 → μ'.2 31 (24 * j + q) = (μ.2 31 (24 * i + q)).toInt8.toInt32) : mCk μ' j k := by
  obtain ⟨h1, h2, h3, h4, h5, h6⟩ := h
  obtain ⟨l1, l2, l3⟩ := hw.le
  refine ⟨e1.trans h1, e2.trans h2, e3.trans h3, fun q hq => ?_, fun q hq => ?_, fun q hq => ?_⟩
  · rw [e4 q (by omega), h4 q hq, n8 ((zNm_lo hw.1).at q)]
  · rw [Nat.add_assoc, e4 (8 + q) (by omega), ← Nat.add_assoc, h5 q hq, n8 ((zNm_lo hw.2.1).at q)]
  · rw [Nat.add_assoc, e4 (16 + q) (by omega), ← Nat.add_assoc, h6 q hq, n8 ((zNm_lo hw.2.2).at q)]
theorem mc_forget (hC : zCs G) (hd : 2 ≤ d) (h : mRel μ T D Q C) (hS : zSW T D Q C) : mC G d ad M_Mo_forget [.ref (ad 50)] μ (mPo (oTx oForget T D Q C)) := by
  have hl := hS.1
  have hD := hS.2.2.1
  have htw := tw_le zOkc T.1
  refine mC_in [some (.ref (ad 50)), none, none, none, none, none, none] pn_Mo_forget hC.1 rfl (Nat.le_of_ble_eq_true rfl) rfl ?_
  refine sMo_forget_0 (by omega) (Nat.le_of_ble_eq_true rfl) (mc_take hC h.1) ?_
  rintro r μ1 ⟨rfl, k1, k2, k3, k4⟩
  have R1 := h.tk hD k1 k4
  unfold oTx
  by_cases q : zTw zOkc T.1 < T.1.length
  · rw [if_pos q, if_pos q]
    refine sMo_forget_4 (fun z => absurd z (nI_pos (by omega))) (fun _ => ?_)
    refine sMo_forget_9 (by omega) (Nat.le_of_ble_eq_true rfl) (mc_wrong hC) ?_
    rintro r μ2 ⟨rfl, rfl⟩
    exact sMo_forget_13 (mPo.same rfl R1)
  rw [if_neg q, if_neg q]
  have hlo : zLo T.1 := zLo_all zOkc_lo (zOk_all q)
  generalize T.1 = t at hl k2 k3 hlo
  have kN := mN.of k3 hlo
  refine sMo_forget_4 (fun _ => ?_) (fun z => absurd (by decide) z)
  refine sMo_forget_14 ?_
  have at' : ∀ i, i < t.length → μ1.2 2 i = nI (t.getD i 0) := fun i hi => by have := kN i hi; rw [Nat.zero_add] at this; exact this
  have hnk := zNk_le t
  have hcw := hD.2.2.2.1
  have hcl := hD.2.2.2.2.1
  have hrC : rC μ1 D.2.1 := R1.2.2.2.2.2.1
  generalize hcs : D.2.1 = cs at hcw hcl hrC
  -- the shift
  have shift : ∀ i, i < cs.length → ∀ o1 o2 (x : Int32) o5 o6, mW G d ad M_Mo_forget 161 [some (.ref (ad 50)), o1, o2, some (.int (nI i)), some (.int x), o5, o6] [] μ1 (mPi fun r μ' => r = x - nI 1 ∧ mRel μ' ([], T.2) (D.1, cs.eraseIdx i, D.2.2) Q C) := by
    intro i hi o1 o2 x o5 o6
    refine sMo_forget_161 ?_
    refine sMo_forget_171 ?_
    have e30 : upd μ1.1 30 (μ1.1 30 - nI 1) 30 = nI (cs.length - 1) := by rw [pk_us, hrC.1, pk_sub (by omega)]
    have hel : (cs.eraseIdx i).length = cs.length - 1 := List.length_eraseIdx_of_lt hi
    have main : ∀ n c (μ2 : zMm) (o6 : Option Value), c + n = cs.length - 1 → i ≤ c → mFm [30] [31, 32, 33, 34] [] μ1 μ2 → μ2.1 30 = nI (cs.length - 1) → (∀ e (he : e < (cs.eraseIdx i).length), e < c → mCk μ2 e (cs.eraseIdx i)[e]) → (∀ e, c < e → mCm μ1 μ2 e) → mW G d ad M_Mo_forget 174 [some (.ref (ad 50)), o1, o2, some (.int (nI i)), some (.int x), some (.int (nI c)), o6] [] μ2 (mPi fun r μ' => r = x - nI 1 ∧ mRel μ' ([], T.2) (D.1, cs.eraseIdx i, D.2.2) Q C) := by
      intro n
      induction n with
      | zero =>
        intro c μ2 o6 hc hic hF h30 hlow hhi
        refine sMo_forget_174 (fun _ => sMo_forget_281 ⟨_, rfl, rfl, R1.jar hD hF ⟨by rw [h30, hel], fun e he => hlow e he (by omega)⟩⟩) (fun z => absurd (show μ2.1 30 ≤ nI c by rw [h30]; exact nI_le (by omega) (by omega)) z)
      | succ n ih =>
        intro c μ2 o6 hc hic hF h30 hlow hhi
        refine sMo_forget_174 (fun z => absurd (show nI (cs.length - 1) ≤ nI c by rw [← h30]; exact z) (nI_ge (by omega) (by omega))) (fun _ => ?_)
        refine sMo_forget_183 (i1 := c + 1) (nI_add _ _) (by rw [ml_32]; omega) (i := c) rfl (by rw [ml_32]; omega) ?_
        refine sMo_forget_199 (i1 := c + 1) (nI_add _ _) (by rw [ml_33]; omega) (i := c) rfl (by rw [ml_33]; omega) ?_
        refine sMo_forget_215 (i1 := c + 1) (nI_add _ _) (by rw [ml_34]; omega) (i := c) rfl (by rw [ml_34]; omega) ?_
        refine sMo_forget_231 ?_
        have F3 : mFm [30] [31, 32, 33, 34] [] μ1 (μ2.1, updA (updA (updA μ2.2 32 c (μ2.2 32 (c + 1))) 33 c (μ2.2 33 (c + 1))) 34 c (μ2.2 34 (c + 1))) := by
          have := ((hF.pa (k := 32) (i := c) (v := μ2.2 32 (c + 1)) (by decide) (by decide) (by decide) (by decide)).pa (k := 33) (i := c) (v := μ2.2 33 (c + 1)) (by decide) (by decide) (by decide) (by decide)).pa (k := 34) (i := c) (v := μ2.2 34 (c + 1)) (by decide) (by decide) (by decide) (by decide)
          exact this
        dsimp only
        rw [updA_n (by decide), updA_n (by decide), updA_n (by decide)]
        generalize hB : updA (updA (updA μ2.2 32 c (μ2.2 32 (c + 1))) 33 c (μ2.2 33 (c + 1))) 34 c (μ2.2 34 (c + 1)) = B at F3
        have b31 : B 31 = μ2.2 31 := by rw [← hB, updA_n (by decide), updA_n (by decide), updA_n (by decide)]
        have b32 : B 32 = upd (μ2.2 32) c (μ2.2 32 (c + 1)) := by rw [← hB, updA_n (by decide), updA_n (by decide), updA_s]
        have b33 : B 33 = upd (μ2.2 33) c (μ2.2 33 (c + 1)) := by rw [← hB, updA_n (by decide), updA_s, updA_n (by decide)]
        have b34 : B 34 = upd (μ2.2 34) c (μ2.2 34 (c + 1)) := by rw [← hB, updA_s, updA_n (by decide), updA_n (by decide)]
        have inner : ∀ n j (μ3 : zMm), j + n = 24 → mFm [30] [31, 32, 33, 34] [] μ1 μ3 → μ3.1 30 = nI (cs.length - 1) → (∀ k, k ≠ 31 → μ3.2 k = B k) → (∀ e, ¬ (24 * c ≤ e ∧ e < 24 * c + 24) → μ3.2 31 e = μ2.2 31 e) → (∀ q, q < j → μ3.2 31 (24 * c + q) = (μ2.2 31 (24 * (c + 1) + q)).toInt8.toInt32) → mW G d ad M_Mo_forget 234 [some (.ref (ad 50)), o1, o2, some (.int (nI i)), some (.int x), some (.int (nI c)), some (.int (nI j))] [] μ3 (mPi fun r μ' => r = x - nI 1 ∧ mRel μ' ([], T.2) (D.1, cs.eraseIdx i, D.2.2) Q C) := by
          intro n
          induction n with
          | zero =>
            intro j μ3 hj f0 f30 f1 f2 f3
            refine sMo_forget_234 (fun _ => ?_) (fun z => absurd (nI_le (by omega) (by omega)) z)
            refine sMo_forget_275 ?_
            rw [nI_add]
            refine ih (c + 1) μ3 _ (by omega) (by omega) f0 f30 (fun e he hec => ?_) (fun e he => ?_)
            · have hce : c + 1 < cs.length := (by omega)
              by_cases w : e = c
              · subst w
                rw [List.getElem_eraseIdx_of_ge (h := he) (h' := hic)]
                have hk2 : mCk μ2 (e + 1) cs[e + 1] := (hrC.at hce).cm (hcw _ (List.getElem_mem _)) (hhi (e + 1) (by omega))
                refine hk2.mv (hcw _ (List.getElem_mem _)) ?_ ?_ ?_ (fun q hq => f3 q (by omega))
                · rw [f1 32 (by decide), b32, pk_us]
                · rw [f1 33 (by decide), b33, pk_us]
                · rw [f1 34 (by decide), b34, pk_us]
              · have hkw : zCkW (cs.eraseIdx i)[e] := hcw _ ((List.eraseIdx_sublist _ _).subset (List.getElem_mem he))
                refine (hlow e he (by omega)).cm hkw ⟨?_, ?_, ?_, fun q hq => f2 _ (by omega)⟩
                · rw [f1 32 (by decide), b32, pk_un w]
                · rw [f1 33 (by decide), b33, pk_un w]
                · rw [f1 34 (by decide), b34, pk_un w]
            · obtain ⟨m1, m2, m3, m4⟩ := hhi e (by omega)
              refine ⟨?_, ?_, ?_, fun q hq => ?_⟩
              · rw [f1 32 (by decide), b32, pk_un (by omega)]; exact m1
              · rw [f1 33 (by decide), b33, pk_un (by omega)]; exact m2
              · rw [f1 34 (by decide), b34, pk_un (by omega)]; exact m3
              · rw [f2 _ (by omega)]; exact m4 q hq
          | succ n ih2 =>
            intro j μ3 hj f0 f30 f1 f2 f3
            refine sMo_forget_234 (fun z => absurd z (nI_ge (by omega) (by omega))) (fun _ => ?_)
            refine sMo_forget_241 (i1 := 24 * (c + 1) + j) (by rw [nI_add, pk_mul, nI_add]) (by rw [ml_31]; omega) (i := 24 * c + j) (by rw [pk_mul, nI_add]) (by rw [ml_31]; omega) ?_
            refine sMo_forget_269 ?_
            rw [nI_add]
            refine ih2 (j + 1) _ (by omega) (f0.pa (by decide) (by decide) (by decide) (by decide)) f30 (fun k hk => ?_) (fun e he => ?_) (fun q hq => ?_)
            · dsimp only; rw [updA_n hk]; exact f1 k hk
            · dsimp only; rw [updA_s, pk_un (by omega)]; exact f2 e he
            · dsimp only
              rw [updA_s]
              by_cases w : q = j
              · rw [w, pk_us, f2 _ (by omega)]
              · rw [pk_un (by omega)]; exact f3 q (by omega)
        exact inner 24 0 _ (by omega) F3 h30 (fun _ _ => rfl) (fun e _ => by dsimp only; rw [b31]) (fun q hq => absurd hq (Nat.not_lt_zero _))
    refine main (cs.length - 1 - i) i _ _ (by omega) (Nat.le_refl _) (mFm.rf.pi (by decide)) e30 (fun e he hei => ?_) (fun e _ => ⟨rfl, rfl, rfl, fun _ _ => rfl⟩)
    rw [List.getElem_eraseIdx_of_lt (h := he) (h' := hei)]
    exact hrC.at (c := e) (by omega)
  -- the search
  have srch : zNm t = true → ∀ o1 o2 o6, mW G d ad M_Mo_forget 92 [some (.ref (ad 50)), o1, o2, some (.int (-1)), some (.int (nI 0)), some (.int (nI 0)), o6] [] μ1 (mPo (oForget t ([], T.2) D Q C)) := by
    intro hnm o1 o2 o6
    have hN := zNm_all hnm
    have main : ∀ n c, c + n = cs.length → mW G d ad M_Mo_forget 92 [some (.ref (ad 50)), o1, o2, some (.int (zLsI (zLst t cs c))), some (.int (nI (zHad t (cs.take c)))), some (.int (nI c)), o6] [] μ1 (mPo (oForget t ([], T.2) D Q C)) := by
      intro n
      induction n with
      | zero =>
        intro c hc
        rw [show c = cs.length by omega, List.take_length]
        refine sMo_forget_92 (fun _ => ?_) (fun z => absurd (show μ1.1 30 ≤ nI cs.length by rw [hrC.1]; exact nI_le (Nat.le_refl _) (by omega)) z)
        unfold oForget
        rw [if_pos hnm, hcs]
        cases hz : zLst t cs cs.length with
        | none => exact sMo_forget_154 (fun z => absurd rfl z) (fun _ => sMo_forget_159 (mPo.same rfl R1))
        | some i =>
          have hi := lst_lt hz
          exact sMo_forget_154 (fun _ => shift i hi _ _ _ _ _) (fun z => absurd z (nI_nm1 (by omega)))
      | succ n ih =>
        intro c hc
        have hcl' : c < cs.length := (by omega)
        have en := hrC.at hcl'
        have hck := hcw _ (List.getElem_mem hcl')
        obtain ⟨l1, l2, l3⟩ := hck.le
        refine sMo_forget_92 (fun z => absurd (show nI cs.length ≤ nI c by rw [← hrC.1]; exact z) (nI_ge (by omega) (by omega))) (fun _ => ?_)
        have ih' := ih (c + 1) (by omega)
        rw [lst_s hcl', had_take hcl'] at ih'
        refine sMo_forget_101 (i1 := c) rfl (by rw [ml_32]; omega) (fun z => ?_) (fun z => ?_)
        · have w : ¬ cs[c].1 = t := fun w => z (by rw [en.1, k2, w])
          rw [if_neg w, if_neg w, Nat.add_zero] at ih'
          refine sMo_forget_148 ?_
          rw [nI_add]; exact ih'
        · rw [en.1, k2] at z
          have hlen := (nI_eq (by omega) (by omega)).mp z
          refine sMo_forget_115 (by omega) (Nat.le_of_ble_eq_true rfl) (by rw [pk_mul, k2, ← hlen]; exact mc_same hC mk_31 mk_2 en.2.2.2.1 (b := 0) kN (zNm_lo hck.1) hlo hlen (by rw [ml_31]; omega) (by rw [ml_2]; omega)) ?_
          rintro r μ2 ⟨rfl, rfl⟩
          by_cases w : cs[c].1 = t
          · rw [if_pos w, if_pos w] at ih'
            rw [beq_iff_eq.mpr w]
            refine sMo_forget_136 (fun _ => ?_) (fun z => absurd z (by decide))
            refine sMo_forget_142 ?_
            rw [nI_add, nI_add]; exact ih'
          · rw [if_neg w, if_neg w, Nat.add_zero] at ih'
            rw [beq_eq_false_iff_ne.mpr w]
            refine sMo_forget_136 (fun z => absurd (by decide) z) (fun _ => ?_)
            refine sMo_forget_139 ?_
            rw [nI_add]; exact ih'
    exact main cs.length 0 (by omega)
  -- behind the name
  have aft : ∀ o1, mW G d ad M_Mo_forget 64 [some (.ref (ad 50)), o1, some (.int (nI (zNk t))), none, none, none, none] [] μ1 (mPo (oForget t ([], T.2) D Q C)) := by
    intro o1
    have bad : zNm t = false → zNa t = nI (zNk t) → mW G d ad M_Mo_forget 79 [some (.ref (ad 50)), o1, some (.int (nI (zNk t))), none, none, none, none] [] μ1 (mPo (oForget t ([], T.2) D Q C)) := fun hnm hna => by
      refine sMo_forget_79 (by omega) (Nat.le_of_ble_eq_true rfl) (mc_wrong hC) ?_
      rintro r μ2 ⟨rfl, rfl⟩
      refine sMo_forget_83 ?_
      unfold oForget
      rw [if_neg (by rw [hnm]; decide), hna]
      exact mPo.same rfl R1
    by_cases hlt : zNk t < t.length
    · refine sMo_forget_64 (fun _ => bad ?_ ?_) (fun z => absurd (show nI (zNk t) < μ1.1 3 by rw [k2]; exact nI_lt hlt (by omega)) z)
      · exact (Bool.not_eq_true _).mp (fun w => by have := (zNm_iff.mp w).2; omega)
      · unfold zNa; rw [if_neg (by omega), if_pos hlt]
    · refine sMo_forget_64 (fun z => absurd (show nI (zNk t) < nI t.length by rw [← k2]; exact z) (nI_nlt (by omega) (by omega))) (fun _ => ?_)
      by_cases h0 : t.length = 0
      · refine sMo_forget_72 (fun z => absurd (show μ1.1 3 = 0 by rw [k2, h0]; decide) z) (fun _ => bad ?_ ?_)
        · exact (Bool.not_eq_true _).mp (fun w => (zNm_iff.mp w).1 h0)
        · unfold zNa; rw [if_pos h0, show zNk t = 0 by omega]; decide
      · refine sMo_forget_72 (fun _ => ?_) (fun z => absurd ((nI_eq (a := t.length) (b := 0) (by omega) (by omega)).mp (by rw [← k2]; exact z)) h0)
        refine sMo_forget_84 ?_
        exact srch (zNm_iff.mpr ⟨h0, (by omega)⟩) _ _ _
  have scan : ∀ n j o1, j + n = t.length → j ≤ 8 → (∀ i, i < j → zFt i (t.getD i 0) = true) → mW G d ad M_Mo_forget 16 [some (.ref (ad 50)), o1, some (.int (nI j)), none, none, none, none] [] μ1 (mPo (oForget t ([], T.2) D Q C)) := by
    -- one look
    have look : ∀ j o1, j < t.length → j < 8 → (zFt j (t.getD j 0) = true → mW G d ad M_Mo_forget 58 [some (.ref (ad 50)), o1, some (.int (nI j)), none, none, none, none] [] μ1 (mPo (oForget t ([], T.2) D Q C))) → (zFt j (t.getD j 0) = false → mW G d ad M_Mo_forget 64 [some (.ref (ad 50)), o1, some (.int (nI j)), none, none, none, none] [] μ1 (mPo (oForget t ([], T.2) D Q C))) → mW G d ad M_Mo_forget 16 [some (.ref (ad 50)), o1, some (.int (nI j)), none, none, none, none] [] μ1 (mPo (oForget t ([], T.2) D Q C)) := by
      intro j o1 hj h8 ky kn
      refine sMo_forget_16 (fun z => absurd (show nI t.length ≤ nI j by rw [← k2]; exact z) (nI_ge (by omega) (by omega))) (fun _ => ?_)
      refine sMo_forget_24 (fun z => absurd z (nI_ge (by omega) (by omega))) (fun _ => ?_)
      refine sMo_forget_30 (i1 := j) rfl (by rw [ml_2]; omega) (by omega) (Nat.le_of_ble_eq_true rfl) (by rw [at' j hj]; exact mc_small hC (hlo.at j)) ?_
      rintro r μ2 ⟨rfl, rfl⟩
      cases e1 : zSm (t.getD j 0) with
      | true => exact sMo_forget_39 (fun _ => ky (by unfold zFt; rw [e1]; rfl)) (fun z => absurd z (by decide))
      | false =>
        refine sMo_forget_39 (fun z => absurd (by decide) z) (fun _ => ?_)
        by_cases h0 : j = 0
        · subst h0
          exact sMo_forget_42 (fun _ => kn (by unfold zFt; rw [e1]; rfl)) (fun z => absurd (by decide) z)
        · refine sMo_forget_42 (fun z => absurd z (nI_nle (by omega) (by omega))) (fun _ => ?_)
          refine sMo_forget_46 (i1 := j) rfl (by rw [ml_2]; omega) (by omega) (Nat.le_of_ble_eq_true rfl) (by rw [at' j hj]; exact mc_digit hC (hlo.at j)) ?_
          rintro r μ3 ⟨rfl, rfl⟩
          have hb : Nat.ble 1 j = true := Nat.ble_eq_true_of_le (by omega)
          cases e2 : zDg (t.getD j 0) with
          | true => exact sMo_forget_55 (fun z => absurd z (by decide)) (fun _ => ky (by unfold zFt; rw [e1, e2, hb]; rfl))
          | false => exact sMo_forget_55 (fun _ => kn (by unfold zFt; rw [e1, e2, hb]; rfl)) (fun z => absurd (by decide) z)
    intro n
    induction n with
    | zero =>
      intro j o1 hj h8 hall
      have e := nk_eq (t := t) (i := j) (by omega) h8 hall (fun w => absurd w (by omega))
      have af := aft o1
      rw [e] at af
      exact sMo_forget_16 (fun _ => af) (fun z => absurd (show μ1.1 3 ≤ nI j by rw [k2]; exact nI_le (by omega) (by omega)) z)
    | succ n ih =>
      intro j o1 hj h8 hall
      by_cases q8 : j = 8
      · have e := nk_eq (t := t) (i := j) (by omega) h8 hall (fun w => Or.inr q8)
        have af := aft o1
        rw [e] at af
        refine sMo_forget_16 (fun _ => af) (fun _ => ?_)
        exact sMo_forget_24 (fun _ => af) (fun z => absurd (nI_le (by omega) (by omega)) z)
      · refine look j o1 (by omega) (by omega) (fun w => ?_) (fun w => ?_)
        · refine sMo_forget_58 ?_
          rw [nI_add]
          refine ih (j + 1) o1 (by omega) (by omega) (fun i hi => ?_)
          by_cases e : i = j
          · rw [e]; exact w
          · exact hall i (by omega)
        · have e := nk_eq (t := t) (i := j) (by omega) h8 hall (fun _ => Or.inl w)
          have af := aft o1
          rw [e] at af
          exact af
  exact scan t.length 0 _ (by omega) (by omega) (fun i hi => absurd hi (Nat.not_lt_zero _))
end MV
