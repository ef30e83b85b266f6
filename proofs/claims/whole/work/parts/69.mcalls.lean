def rCore (μ : zMm) (D : zDD) (Q : zRR) (C : zCC) : Prop := mPw μ 5 (zPl zHome) ∧ rA μ D.1 ∧ rC μ D.2.1 ∧ rK μ Q.1 D.2.2.1 ∧ μ.1 25 = nI D.2.2.2 ∧ rQ μ Q ∧ rM μ C
/-- only scratch, tape, what is written and the base may have changed -/
def zDj (I Ar Rw : List Nat) : Prop := (∀ k ∈ I, k ∈ [1, 3, 5, 12, 14, 15, 38, 39, 40, 41, 42, 44]) ∧ (∀ k ∈ Ar, k ∈ [0, 2, 4, 9, 10, 11, 43]) ∧ ∀ r ∈ Rw, r ∈ [0, 1, 3, 4]
theorem rCore.fm {μ μ' : zMm} {I Ar Rw : List Nat} {D : zDD} {Q : zRR} {C : zCC} (h : rCore μ D Q C) (hD : zDDW D) (f : mFm I Ar Rw μ μ') (hj : zDj I Ar Rw) : rCore μ' D Q C := by
  obtain ⟨h1, h2, h3, h4, h5, h6, h7⟩ := h
  obtain ⟨j1, j2, j3⟩ := hj
  have i : ∀ k, k ∉ [1, 3, 5, 12, 14, 15, 38, 39, 40, 41, 42, 44] → k ∉ I := fun k hk z => hk (j1 k z)
  have a : ∀ k, k ∉ [0, 2, 4, 9, 10, 11, 43] → k ∉ Ar := fun k hk z => hk (j2 k z)
  have r : ∀ k, k ∉ [0, 1, 3, 4] → k ∉ Rw := fun k hk z => hk (j3 k z)
  refine ⟨h1.fm f (r 5 (by decide)), h2.fm f hD.2.1 (i 16 (by decide)) (fun k a1 a2 => a k (by simp only [List.mem_cons, List.not_mem_nil, or_false]; omega)) (fun k hk => r k (by simp only [List.mem_cons, List.not_mem_nil, or_false]; omega)), h3.fm f (i 30 (by decide)) (fun k a1 a2 => a k (by simp only [List.mem_cons, List.not_mem_nil, or_false]; omega)), h4.fm f hD.2.2.2.2.2.2.1 (i 26 (by decide)) (i 27 (by decide)) (a 17 (by decide)) (a 18 (by decide)) (a 23 (by decide)) (a 24 (by decide)) (a 28 (by decide)) (a 29 (by decide)) (fun k hk => r k (by simp only [List.mem_cons, List.not_mem_nil, or_false]; omega)), (f.1 25 (i 25 (by decide))).trans h5, h6.fm f (i 35 (by decide)) (i 37 (by decide)) (a 36 (by decide)) (r 2 (by decide)), h7.fm f (fun k a1 a2 => i k (by simp only [List.mem_cons, List.not_mem_nil, or_false]; omega)) (a 47 (by decide)) (r 26 (by decide))⟩
theorem zDj_t : zDj [1, 3] [2] [] := ⟨by decide, by decide, by decide⟩
theorem zDj_r : zDj [12, 14, 15] [9, 10, 11] [0] := ⟨by decide, by decide, by decide⟩
theorem zDj_o : zDj [5] [4] [] := ⟨by decide, by decide, by decide⟩
/-- what a state of the desk is like -/
def zSW (T : zTT) (D : zDD) (Q : zRR) (C : zCC) : Prop := T.1.length ≤ 2000 ∧ zWf T.2.2 ∧ zDDW D ∧ zDN D ∧ Q.1 < 2 ^ 29 ∧ (∀ b, Q.2.1 = some b → zWf b) ∧ Q.2.2.length ≤ 360 ∧ zAnW C.1 ∧ (∀ b, C.2.1 = some b → zWf b) ∧ (C.2.2.1 = [] ∨ ∃ m, C.2.2.1 = 35 :: m ∧ zNm m = true) ∧ C.2.2.2.1 ≤ 5
def mPo (o : zOo) : Option Value → zMm → Prop := mPi fun r μ' => r = o.1 ∧ mRel μ' o.2.1 o.2.2.1 o.2.2.2.1 o.2.2.2.2
theorem zMkS {A : zA} (h : zWf A) : (if A.2.2.2.drop 1 = [] then [] else 35 :: A.2.2.2.drop 1) = A.2.2.2 := by
  rcases h.2.2.2.2.2 with e | ⟨m, e, e2⟩
  · rw [e]; rfl
  · rw [e]
    have : m ≠ [] := fun z => by have := (zNm_all e2).1; rw [z] at this; simp at this
    show (if m = [] then [] else 35 :: m) = 35 :: m
    rw [if_neg this]
section MT
variable {G : zG} {d : Nat} {ad : Nat → Nat} {μ : zMm} {c k : Nat} {t o p m : List Nat} {T : zTT} {D : zDD} {Q : zRR} {C : zCC}
theorem mPo.same {o : zOo} {r : Int32} (hr : r = o.1) (h : mRel μ o.2.1 o.2.2.1 o.2.2.2.1 o.2.2.2.2) : mPo o (some (.int r)) μ := ⟨r, rfl, hr, h⟩
theorem mc_putFour (hC : zCs G) (h : rT μ t) (hl : t.length + 4 ≤ 2000) {w : Int32} : mC G d ad M_Mo_putFour [.ref (ad 50), .int w] μ (mPv fun μ' => rT μ' (t ++ zWb w) ∧ mFm [1] [0] [] μ μ') := by
  have one : ∀ (μ1 : zMm) (u : List Nat) (s : Int32) (k : Nat) (P : Option Value → zMm → Prop), rT μ1 u → u.length < 2000 → k ≤ 24 → ((s &&& 31).toBitVec.smod 32).toNat = k → (∀ μ2 : zMm, rT μ2 (u ++ [zBy w k]) → mFm [1] [0] [] μ1 μ2 → mW G d ad M_Mo_putFour 3 [some (.ref (ad 50)), some (.int w), some (.int (s + (-8)))] [] μ2 P) → mW G d ad M_Mo_putFour 7 [some (.ref (ad 50)), some (.int w), some (.int s)] [] μ1 P := by
    intro μ1 u s k P hT hlt hk hs kk
    obtain ⟨h1, h2, h3, h4⟩ := hT
    refine sMo_putFour_7 (i := u.length) h1 (by rw [ml_0]; omega) ?_
    refine sMo_putFour_20 ?_
    refine sMo_putFour_30 ?_
    refine kk _ ⟨?_, ?_, ?_, ?_⟩ ((mFm.rf.pa (by decide) (by decide) (by decide) (by decide)).pi (by decide))
    · dsimp only
      rw [pk_us, h1, nI_add, List.length_append]; rfl
    · dsimp only
      rw [updA_s, zBy_m w s k hk hs]
      intro j hj
      rw [List.length_append] at hj
      simp only [List.length_cons, List.length_nil] at hj
      rw [Nat.zero_add]
      by_cases q : j = u.length
      · rw [q, pk_us, getD_app_hi (Nat.le_refl _), Nat.sub_self]
        exact z8 _
      · rw [pk_un q, getD_app_lo (by omega)]
        have := h2 j (by omega)
        rw [Nat.zero_add] at this
        exact this
    · rw [List.length_append]; simp only [List.length_cons, List.length_nil]; omega
    · intro c hc
      rcases List.mem_append.mp hc with z | z
      · exact h4 c z
      · rw [List.mem_singleton.mp z]; exact zBy_lt _ _
  refine mC_in [some (.ref (ad 50)), some (.int w), none] pn_Mo_putFour hC.1 rfl (Nat.le_of_ble_eq_true rfl) rfl ?_
  refine sMo_putFour_0 ?_
  refine sMo_putFour_3 (fun z => absurd z (by decide)) (fun _ => ?_)
  refine one μ t _ 24 _ h (by omega) (by decide) (by decide) (fun μ1 r1 f1 => ?_)
  rw [show nI 24 + (-8) = nI 16 by decide]
  refine sMo_putFour_3 (fun z => absurd z (by decide)) (fun _ => ?_)
  refine one μ1 _ _ 16 _ r1 (by rw [List.length_append]; simp only [List.length_cons, List.length_nil]; omega) (by decide) (by decide) (fun μ2 r2 f2 => ?_)
  rw [show nI 16 + (-8) = nI 8 by decide]
  refine sMo_putFour_3 (fun z => absurd z (by decide)) (fun _ => ?_)
  refine one μ2 _ _ 8 _ r2 (by rw [List.length_append, List.length_append]; simp only [List.length_cons, List.length_nil]; omega) (by decide) (by decide) (fun μ3 r3 f3 => ?_)
  rw [show nI 8 + (-8) = nI 0 by decide]
  refine sMo_putFour_3 (fun z => absurd z (by decide)) (fun _ => ?_)
  refine one μ3 _ _ 0 _ r3 (by rw [List.length_append, List.length_append, List.length_append]; simp only [List.length_cons, List.length_nil]; omega) (by decide) (by decide) (fun μ4 r4 f4 => ?_)
  rw [show nI 0 + (-8) = -8 by decide]
  refine sMo_putFour_3 (fun _ => ?_) (fun z => absurd (by decide) z)
  have e : t ++ [zBy w 24] ++ [zBy w 16] ++ [zBy w 8] ++ [zBy w 0] = t ++ zWb w := by unfold zWb; simp only [List.append_assoc]; rfl
  rw [e] at r4
  exact sMo_putFour_36 ⟨rfl, r4, ((f1.tr f2).tr f3).tr f4⟩
theorem mc_feed (hC : zCs G) (hd : 1 ≤ d) (h : mRel μ T D Q C) (hS : zSW T D Q C) (a b c e f : Int32) : mC G d ad M_Mo_feed [.ref (ad 50), .int a, .int b, .int c, .int e, .int f] μ (mPo (oFeed a b c e f T D Q C)) := by
  obtain ⟨h1, h2, h3, h4⟩ := id h
  have hl := h1.2.2.1
  have lw : ∀ w : Int32, (zWb w).length = 4 := fun w => rfl
  refine mC_in [some (.ref (ad 50)), some (.int a), some (.int b), some (.int c), some (.int e), some (.int f)] pn_Mo_feed hC.1 rfl (Nat.le_of_ble_eq_true rfl) rfl ?_
  have e20 : μ.1 1 + nI 20 = nI (T.1.length + 20) := by rw [h1.1, nI_add]
  unfold oFeed
  by_cases q : 1980 < T.1.length
  · rw [if_pos q]
    exact sMo_feed_0 (fun z => by rw [e20] at z; exact absurd z (nI_ge (by omega) (by omega))) (fun _ => sMo_feed_13 (mPo.same rfl h))
  · rw [if_neg q]
    refine sMo_feed_0 (fun _ => ?_) (fun z => absurd (by rw [e20]; exact nI_le (by omega) (by omega)) z)
    refine sMo_feed_15 (by omega) (Nat.le_of_ble_eq_true rfl) (mc_putFour hC h1 (by omega)) ?_
    rintro μ1 ⟨r1, f1⟩
    refine sMo_feed_20 (by omega) (Nat.le_of_ble_eq_true rfl) (mc_putFour hC r1 (by simp only [List.length_append, lw]; omega)) ?_
    rintro μ2 ⟨r2, f2⟩
    refine sMo_feed_25 (by omega) (Nat.le_of_ble_eq_true rfl) (mc_putFour hC r2 (by simp only [List.length_append, lw]; omega)) ?_
    rintro μ3 ⟨r3, f3⟩
    refine sMo_feed_30 (by omega) (Nat.le_of_ble_eq_true rfl) (mc_putFour hC r3 (by simp only [List.length_append, lw]; omega)) ?_
    rintro μ4 ⟨r4, f4⟩
    refine sMo_feed_36 (by omega) (Nat.le_of_ble_eq_true rfl) (mc_putFour hC r4 (by simp only [List.length_append, lw]; omega)) ?_
    rintro μ5 ⟨r5, f5⟩
    have F := (((f1.tr f2).tr f3).tr f4).tr f5
    refine sMo_feed_42 ⟨_, rfl, ?_, r5, h2.fm F (by decide) (by decide), h3.fm F (by decide), rCore.fm h4 hS.2.2.1 F ⟨by decide, by decide, by decide⟩⟩
    rw [r5.1]
    simp only [List.length_append, lw]
theorem mc_end (hC : zCs G) (h : mRel μ T D Q C) (hS : zSW T D Q C) (n : Int32) : mC G d ad M_Mo_end [.ref (ad 50), .int n] μ (mPo (oEnd n T D Q C)) := by
  obtain ⟨h1, h2, h3, h4⟩ := id h
  have hl := h1.2.2.1
  refine mC_in [some (.ref (ad 50)), some (.int n)] pn_Mo_end hC.1 rfl (Nat.le_of_ble_eq_true rfl) rfl ?_
  unfold oEnd
  refine sMo_end_0 (fun z => ?_) (fun z => ?_)
  · rw [if_pos (Or.inl z)]
    exact sMo_end_12 (mPo.same rfl h)
  · obtain ⟨j, hj, rfl⟩ := nI_of z
    refine sMo_end_4 (fun w => ?_) (fun w => ?_)
    · rw [h1.1] at w
      have hle := (nI_leI (by omega) (by omega)).mp w
      rw [if_neg (fun y => y.elim z (fun y2 => absurd ((nI_ltI (by omega) (by omega)).mp y2) (by omega))), nI_clamp (by omega)]
      refine sMo_end_14 ?_
      have F : mFm [1] [] [] μ (upd μ.1 1 (nI j), μ.2) := mFm.rf.pi (by decide)
      have lt : (T.1.take j).length = j := by rw [List.length_take]; omega
      refine sMo_end_19 ⟨_, rfl, rfl, ⟨?_, fun i hi => ?_, ?_, ?_⟩, h2.fm F (by decide) (by decide), h3.fm F (by decide), rCore.fm h4 hS.2.2.1 F ⟨by decide, by decide, by decide⟩⟩
      · dsimp only; rw [pk_us, lt]
      · rw [lt] at hi
        rw [getD_take hi]
        exact h1.2.1 i (by omega)
      · rw [lt]; omega
      · intro c hc; exact h1.2.2.2 c (List.mem_of_mem_take hc)
    · rw [h1.1] at w
      rw [if_pos (Or.inr (by
        rcases Nat.lt_or_ge T.1.length j with y | y
        · exact nI_lt y (by omega)
        · exact absurd (nI_le y (by omega)) w))]
      exact sMo_end_12 (mPo.same rfl h)
theorem n255 {c : Nat} (h : c < 128) : nI c &&& nI 255 = nI c := by
  revert c
  have : ∀ c, c < 128 → nI c &&& nI 255 = nI c := by decide +kernel
  exact fun {c} h => this c h
theorem mc_out (hC : zCs G) (h : mRel μ T D Q C) (n : Int32) : mC G d ad M_Mo_out [.ref (ad 50), .int n] μ (mPo (oOut n T D Q C)) := by
  obtain ⟨h1, h2, h3, h4⟩ := id h
  have hl := h2.2.2.2
  refine mC_in [some (.ref (ad 50)), some (.int n)] pn_Mo_out hC.1 rfl (Nat.le_of_ble_eq_true rfl) rfl ?_
  refine sMo_out_0 (fun z => sMo_out_12 (mPo.same (zAtI_neg z).symm h)) (fun z => ?_)
  obtain ⟨j, hj, rfl⟩ := nI_of z
  refine sMo_out_4 (fun w => ?_) (fun w => ?_)
  · rw [h2.1] at w
    have hlt := (nI_ltI (by omega) (by omega)).mp w
    have e := h2.2.1 j hlt
    rw [Nat.zero_add] at e
    refine sMo_out_16 (i1 := j) rfl (by rw [ml_4]; omega) (mPo.same ?_ h)
    rw [e, n255 (h2.2.2.1.at j)]
    exact (zAtI_in hlt (by omega)).symm
  · rw [h2.1] at w
    have hge : T.2.1.length ≤ j := by
      rcases Nat.lt_or_ge j T.2.1.length with y | y
      · exact absurd (nI_lt y (by omega)) w
      · exact y
    exact sMo_out_12 (mPo.same (zAtI_out hge hj).symm h)
theorem mc_body (hC : zCs G) (h : mRel μ T D Q C) (hS : zSW T D Q C) (n : Int32) : mC G d ad M_Mo_body [.ref (ad 50), .int n] μ (mPo (oBody n T D Q C)) := by
  obtain ⟨h1, h2, h3, -, -, -, -, -, -, hM⟩ := id h
  have hA := hS.2.2.2.2.2.2.2.1
  have hl := hA.2.2.2.2.1
  have hlo : zLo C.1.2.2.2.2.2 := zLo_all zOkc_lo hA.2.2.2.2.2
  refine mC_in [some (.ref (ad 50)), some (.int n)] pn_Mo_body hC.1 rfl (Nat.le_of_ble_eq_true rfl) rfl ?_
  refine sMo_body_0 (fun z => sMo_body_12 (mPo.same (zAtI_neg z).symm h)) (fun z => ?_)
  obtain ⟨j, hj, rfl⟩ := nI_of z
  refine sMo_body_4 (fun w => ?_) (fun w => ?_)
  · rw [hM.1] at w
    have hlt := (nI_ltI (by omega) (by omega)).mp w
    have e := hM.2.1 j hlt
    rw [Nat.zero_add] at e
    refine sMo_body_16 (i1 := j) rfl (by rw [ml_47]; omega) (mPo.same ?_ h)
    rw [e, n255 (hlo.at j)]
    exact (zAtI_in hlt (by omega)).symm
  · rw [hM.1] at w
    have hge : C.1.2.2.2.2.2.length ≤ j := by
      rcases Nat.lt_or_ge j C.1.2.2.2.2.2.length with y | y
      · exact absurd (nI_lt y (by omega)) w
      · exact y
    exact sMo_body_12 (mPo.same (zAtI_out hge hj).symm h)
theorem mc_tick (hC : zCs G) (h : mRel μ T D Q C) (hS : zSW T D Q C) (n : Int32) : mC G d ad M_Mo_tick [.ref (ad 50), .int n] μ (mPo (oTick n T D Q C)) := by
  obtain ⟨h1, h2, h3, h4, h5, h6, h7, h8, h9, h10⟩ := id h
  have hclk := hS.2.2.2.1.1
  refine mC_in [some (.ref (ad 50)), some (.int n)] pn_Mo_tick hC.1 rfl (Nat.le_of_ble_eq_true rfl) rfl ?_
  unfold oTick
  refine sMo_tick_0 (fun z => ?_) (fun z => ?_)
  · rw [if_pos (Or.inl z)]
    exact sMo_tick_11 (mPo.same rfl h)
  · obtain ⟨j, hj, rfl⟩ := nI_of z
    refine sMo_tick_4 (fun w => ?_) (fun w => ?_)
    · have hle := (nI_leI (by omega) (by omega)).mp w
      rw [if_neg (fun y => y.elim z (fun y2 => absurd ((nI_ltI (a := 1000) (by decide) (by omega)).mp y2) (by omega))), nI_clamp (by omega)]
      refine sMo_tick_13 ?_
      have F : mFm [25] [] [] μ (upd μ.1 25 (μ.1 25 + nI j), μ.2) := mFm.rf.pi (by decide)
      have e : upd μ.1 25 (μ.1 25 + nI j) 25 = nI (D.2.2.2 + j) := by rw [pk_us, h8, nI_add]
      have hD := hS.2.2.1
      refine sMo_tick_23 ⟨_, rfl, e, h1.fm F (by decide) (by decide), h2.fm F (by decide) (by decide), h3.fm F (by decide), h4.fm F (by decide), h5.fm F hD.2.1 (by decide) (fun k _ _ => List.not_mem_nil) (fun k _ => List.not_mem_nil), h6.fm F (by decide) (fun k _ _ => List.not_mem_nil), h7.fm F hD.2.2.2.2.2.2.1 (by decide) (by decide) (by decide) (by decide) (by decide) (by decide) (by decide) (by decide) (fun k _ => List.not_mem_nil), e, h9.fm F (by decide) (by decide) (by decide) (by decide), h10.fm F (fun k a b => (by simp only [List.mem_cons, List.not_mem_nil, or_false]; omega)) (by decide) (by decide)⟩
    · rw [if_pos (Or.inr (by
        rcases Nat.lt_or_ge 1000 j with y | y
        · exact nI_lt (a := 1000) y (by omega)
        · exact absurd (nI_le y (by omega)) w))]
      exact sMo_tick_11 (mPo.same rfl h)
theorem mc_count (hC : zCs G) (h : mRel μ T D Q C) (n : Int32) : mC G d ad M_Mo_count [.ref (ad 50), .int n] μ (mPo (oCount n T D Q C)) := by
  obtain ⟨h1, h2, h3, h4, h5, h6, h7, h8, h9, h10⟩ := id h
  obtain ⟨L, kc, -, k1, -⟩ := h7
  obtain ⟨m1, m2, m3, m4, m5, m6⟩ := h10
  refine mC_in [some (.ref (ad 50)), some (.int n)] pn_Mo_count hC.1 rfl (Nat.le_of_ble_eq_true rfl) rfl ?_
  intro H0 H hM hm hu
  refine zw_iload_n (j := 1) (i := 1) dMo_count_0 rfl rfl ?_
  unfold oCount
  by_cases q0 : n = 0
  · subst q0
    refine zw_tableIn 48 dMo_count_1 (by decide) (by decide) rfl rfl ?_
    exact (sMo_count_48 (mPo.same h5.1 h)) H0 H hM hm hu
  rw [if_neg q0]
  by_cases q1 : n = 1
  · subst q1
    refine zw_tableIn 53 dMo_count_1 (by decide) (by decide) rfl rfl ?_
    exact (sMo_count_53 (mPo.same h6.1 h)) H0 H hM hm hu
  rw [if_neg q1]
  by_cases q2 : n = 2
  · subst q2
    refine zw_tableIn 58 dMo_count_1 (by decide) (by decide) rfl rfl ?_
    exact (sMo_count_58 (mPo.same k1 h)) H0 H hM hm hu
  rw [if_neg q2]
  by_cases q3 : n = 3
  · subst q3
    refine zw_tableIn 63 dMo_count_1 (by decide) (by decide) rfl rfl ?_
    exact (sMo_count_63 (mPo.same h9.1 h)) H0 H hM hm hu
  rw [if_neg q3]
  by_cases q4 : n = 4
  · subst q4
    refine zw_tableIn 68 dMo_count_1 (by decide) (by decide) rfl rfl ?_
    exact (sMo_count_68 (mPo.same h8 h)) H0 H hM hm hu
  rw [if_neg q4]
  by_cases q5 : n = 5
  · subst q5
    refine zw_tableIn 73 dMo_count_1 (by decide) (by decide) rfl rfl ?_
    cases hc : C.2.1 with
    | none =>
      rw [hc] at m4
      exact (sMo_count_73 (fun _ => sMo_count_87 (mPo.same (by show nI 0 = nI C.2.2.2.1; rw [(m6 hc).1]) h)) (fun z => absurd (by rw [m4]; decide) z)) H0 H hM hm hu
    | some b =>
      rw [hc] at m4
      exact (sMo_count_73 (fun z => absurd (show zB1 (some b).isSome = 0 by rw [← m4]; exact z) (by show ¬ zB1 true = 0; decide)) (fun _ => sMo_count_80 (mPo.same (m5 b hc).2.2.1 h))) H0 H hM hm hu
  rw [if_neg q5]
  by_cases q6 : n = 6
  · subst q6
    refine zw_tableIn 89 dMo_count_1 (by decide) (by decide) rfl rfl ?_
    cases hb : C.1.2.2.2.2.1 with
    | true =>
      rw [hb] at m3
      exact (sMo_count_89 (fun z => absurd (show zB1 true = 0 by rw [← m3]; exact z) (by decide)) (fun _ => sMo_count_96 (mPo.same (by show nI 1 = zB1 true; decide) h))) H0 H hM hm hu
    | false =>
      rw [hb] at m3
      exact (sMo_count_89 (fun _ => sMo_count_100 (mPo.same (by show nI 0 = zB1 false; decide) h)) (fun z => absurd (by rw [m3]; decide) z)) H0 H hM hm hu
  rw [if_neg q6]
  by_cases q7 : n = 7
  · subst q7
    refine zw_tableIn 102 dMo_count_1 (by decide) (by decide) rfl rfl ?_
    cases hc : C.2.1 with
    | none =>
      rw [hc] at m4
      exact (sMo_count_102 (fun _ => sMo_count_120 (mPo.same (by show nI 0 = zB1 C.2.2.2.2; rw [(m6 hc).2]; decide) h)) (fun z => absurd (by rw [m4]; decide) z)) H0 H hM hm hu
    | some b =>
      rw [hc] at m4
      have m46 := (m5 b hc).2.2.2
      refine (sMo_count_102 (fun z => absurd (show zB1 (some b).isSome = 0 by rw [← m4]; exact z) (by show ¬ zB1 true = 0; decide)) (fun _ => ?_)) H0 H hM hm hu
      cases hb : C.2.2.2.2 with
      | true =>
        rw [hb] at m46
        exact sMo_count_109 (fun z => absurd (show zB1 true = 0 by rw [← m46]; exact z) (by decide)) (fun _ => sMo_count_116 (mPo.same (by show nI 1 = zB1 true; decide) h))
      | false =>
        rw [hb] at m46
        exact sMo_count_109 (fun _ => sMo_count_120 (mPo.same (by show nI 0 = zB1 false; decide) h)) (fun z => absurd (by rw [m46]; decide) z)
  rw [if_neg q7]
  refine zw_tableOut 122 dMo_count_1 (w_out (fun k a b e => ?_)) rfl ?_
  · have e0 := zNe q0 0 (by decide)
    have e1 := zNe q1 1 (by decide)
    have e2 := zNe q2 2 (by decide)
    have e3 := zNe q3 3 (by decide)
    have e4 := zNe q4 4 (by decide)
    have e5 := zNe q5 5 (by decide)
    have e6 := zNe q6 6 (by decide)
    have e7 := zNe q7 7 (by decide)
    omega
  · exact (sMo_count_122 (mPo.same rfl h)) H0 H hM hm hu
/-- behind take: the text, all but THE TAPE as it was -/
theorem mRel.tk {μ1 : zMm} (h : mRel μ T D Q C) (hD : zDDW D) (hT : rT μ1 []) (f : mFm [1, 3] [2] [] μ μ1) : mRel μ1 ([], T.2) D Q C := by
  obtain ⟨h1, h2, h3, h4⟩ := h
  exact ⟨hT, h2.fm f (by decide) (by decide), h3.fm f (by decide), rCore.fm h4 hD f zDj_t⟩
theorem mRel.sc {μ1 : zMm} {I Ar Rw : List Nat} (h : mRel μ T D Q C) (hD : zDDW D) (f : mFm I Ar Rw μ μ1) (hj : zDj I Ar Rw) (i1 : 1 ∉ I) (i5 : 5 ∉ I) (a0 : 0 ∉ Ar) (a4 : 4 ∉ Ar) (r1 : 1 ∉ Rw) : mRel μ1 T D Q C := by
  obtain ⟨h1, h2, h3, h4⟩ := h
  exact ⟨h1.fm f i1 a0, h2.fm f i5 a4, h3.fm f r1, rCore.fm h4 hD f hj⟩
theorem zOk_all {t : List Nat} (h : ¬ zTw zOkc t < t.length) : t.all zOkc = true := tw_all.mp (by have := tw_le zOkc t; omega)
theorem sli_whole (t : List Nat) : zSli t 0 t.length = t := by unfold zSli; rw [List.drop_zero, Nat.sub_zero, List.take_length]
theorem mc_resolve (hC : zCs G) (hd : 7 ≤ d) (h : mRel μ T D Q C) (hS : zSW T D Q C) : mC G d ad M_Mo_resolve [.ref (ad 50)] μ (mPo (oTx oResolve T D Q C)) := by
  have hl := hS.1
  have hD := hS.2.2.1
  have htw := tw_le zOkc T.1
  refine mC_in [some (.ref (ad 50)), none] pn_Mo_resolve hC.1 rfl (Nat.le_of_ble_eq_true rfl) rfl ?_
  refine sMo_resolve_0 (by omega) (Nat.le_of_ble_eq_true rfl) (mc_take hC h.1) ?_
  rintro r μ1 ⟨rfl, k1, k2, k3, k4⟩
  have R1 := h.tk hD k1 k4
  unfold oTx
  by_cases q : zTw zOkc T.1 < T.1.length
  · rw [if_pos q, if_pos q]
    refine sMo_resolve_4 (fun z => absurd z (nI_pos (by omega))) (fun _ => ?_)
    refine sMo_resolve_9 (by omega) (Nat.le_of_ble_eq_true rfl) (mc_wrong hC) ?_
    rintro r μ2 ⟨rfl, rfl⟩
    exact sMo_resolve_13 (mPo.same rfl R1)
  · rw [if_neg q, if_neg q]
    have hlo : zLo T.1 := zLo_all zOkc_lo (zOk_all q)
    refine sMo_resolve_4 (fun _ => ?_) (fun z => absurd (by decide) z)
    refine sMo_resolve_14 (by omega) (Nat.le_of_ble_eq_true rfl) (by rw [k2]; exact mc_refer hC (by omega) (mN.of k3 hlo) hlo hl (Nat.zero_le _) (Nat.le_refl _) (by decide) (by decide) R1.2.2.1.1 hS.2.1) ?_
    rw [sli_whole]
    rintro r μ2 ⟨n1, n2, n3⟩
    have R2 := R1.sc hD n3 zDj_r (by decide) (by decide) (by decide) (by decide) (by decide)
    unfold oResolve
    have e0 : (([], T.2) : zTT).2.2 = T.2.2 := rfl
    rw [e0]
    cases hz : zRead T.1 T.2.2 with
    | none =>
      have := n1 hz
      subst this
      exact sMo_resolve_28 (fun z => absurd rfl z) (fun _ => sMo_resolve_31 (mPo.same rfl R2))
    | some A =>
      obtain ⟨rfl, n4, n5⟩ := n2 A hz
      have hwA := zRead_wf hS.2.1 hz
      refine sMo_resolve_28 (fun _ => ?_) (fun z => absurd z (by decide))
      refine sMo_resolve_33 ?_
      have F3 : mFm [5] [4] [] μ2 (upd μ2.1 5 (nI 0), μ2.2) := mFm.rf.pi (by decide)
      have O3 : rO (upd μ2.1 5 (nI 0), μ2.2) [] := ⟨pu_s, (fun i hi => absurd hi (Nat.not_lt_zero _)), (fun c hc => by cases hc), Nat.zero_le _⟩
      refine sMo_resolve_38 (by omega) (Nat.le_of_ble_eq_true rfl) (mc_sayRow hC (by omega) (by decide) n4.1 n4.2 O3) ?_
      rintro μ3 ⟨g1, g2⟩
      rw [zMkS hwA] at g1
      have F := F3.tr g2
      obtain ⟨x1, x2, x3, x4⟩ := R2
      refine sMo_resolve_43 ⟨_, rfl, g1.1, x1.fm F (by decide) (by decide), g1, x3.fm F (by decide), rCore.fm x4 hD F zDj_o⟩
theorem mc_base (hC : zCs G) (hd : 7 ≤ d) (h : mRel μ T D Q C) (hS : zSW T D Q C) : mC G d ad M_Mo_base [.ref (ad 50)] μ (mPo (oTx oBase T D Q C)) := by
  have hl := hS.1
  have hD := hS.2.2.1
  have htw := tw_le zOkc T.1
  refine mC_in [some (.ref (ad 50)), none] pn_Mo_base hC.1 rfl (Nat.le_of_ble_eq_true rfl) rfl ?_
  refine sMo_base_0 (by omega) (Nat.le_of_ble_eq_true rfl) (mc_take hC h.1) ?_
  rintro r μ1 ⟨rfl, k1, k2, k3, k4⟩
  have R1 := h.tk hD k1 k4
  unfold oTx
  by_cases q : zTw zOkc T.1 < T.1.length
  · rw [if_pos q, if_pos q]
    refine sMo_base_4 (fun z => absurd z (nI_pos (by omega))) (fun _ => ?_)
    refine sMo_base_9 (by omega) (Nat.le_of_ble_eq_true rfl) (mc_wrong hC) ?_
    rintro r μ2 ⟨rfl, rfl⟩
    exact sMo_base_13 (mPo.same rfl R1)
  · rw [if_neg q, if_neg q]
    have hlo : zLo T.1 := zLo_all zOkc_lo (zOk_all q)
    refine sMo_base_4 (fun _ => ?_) (fun z => absurd (by decide) z)
    refine sMo_base_14 (by omega) (Nat.le_of_ble_eq_true rfl) (by rw [k2]; exact mc_refer hC (by omega) (mN.of k3 hlo) hlo hl (Nat.zero_le _) (Nat.le_refl _) (by decide) (by decide) R1.2.2.1.1 hS.2.1) ?_
    rw [sli_whole]
    rintro r μ2 ⟨n1, n2, n3⟩
    have R2 := R1.sc hD n3 zDj_r (by decide) (by decide) (by decide) (by decide) (by decide)
    unfold oBase
    have e0 : (([], T.2) : zTT).2.2 = T.2.2 := rfl
    rw [e0]
    cases hz : zRead T.1 T.2.2 with
    | none =>
      have := n1 hz
      subst this
      exact sMo_base_28 (fun z => absurd rfl z) (fun _ => sMo_base_31 (mPo.same rfl R2))
    | some A =>
      obtain ⟨rfl, n4, n5⟩ := n2 A hz
      refine sMo_base_28 (fun _ => ?_) (fun z => absurd z (by decide))
      refine sMo_base_33 (by omega) (Nat.le_of_ble_eq_true rfl) (mc_copyRow hC (to := 1) (fr := 0) (by decide) (by decide) (by decide)) ?_
      rintro μ3 ⟨g1, g2, g3⟩
      obtain ⟨x1, x2, x3, x4⟩ := R2
      refine sMo_base_39 ⟨_, rfl, (g1.1 12 List.not_mem_nil).trans n5, x1.fm g1 (by decide) (by decide), x2.fm g1 (by decide) (by decide), ⟨g2 _ n4.1, g3 _ n4.2⟩, rCore.fm x4 hD g1 ⟨by decide, by decide, by decide⟩⟩
theorem mc_write (hC : zCs G) (hd : 3 ≤ d) (h : mRel μ T D Q C) (hS : zSW T D Q C) (n : Int32) : mC G d ad M_Mo_write [.ref (ad 50), .int n] μ (mPo (oWrite n T D Q C)) := by
  have hD := hS.2.2.1
  obtain ⟨x1, x2, x3, x4⟩ := id h
  obtain ⟨-, -, -, -, -, y6, y7⟩ := id x4
  refine mC_in [some (.ref (ad 50)), some (.int n)] pn_Mo_write hC.1 rfl (Nat.le_of_ble_eq_true rfl) rfl ?_
  have F0 : mFm [5] [4] [] μ (upd μ.1 5 (nI 0), μ.2) := mFm.rf.pi (by decide)
  have O0 : rO (upd μ.1 5 (nI 0), μ.2) [] := ⟨pu_s, (fun i hi => absurd hi (Nat.not_lt_zero _)), (fun c hc => by cases hc), Nat.zero_le _⟩
  have fin : ∀ (μ1 : zMm) (o : List Nat), rO μ1 o → mFm [5] [4] [] μ μ1 → mRel μ1 (T.1, o, T.2.2) D Q C := fun μ1 o hO hF => ⟨x1.fm hF (by decide) (by decide), hO, x3.fm hF (by decide), rCore.fm x4 hD hF zDj_o⟩
  unfold oWrite
  by_cases q0 : n = 0
  · subst q0
    rw [if_pos rfl]
    refine sMo_write_0 (fun z => absurd z (by decide)) (fun _ => ?_)
    refine sMo_write_4 (fun _ => ?_) (fun z => absurd (by decide) z)
    refine sMo_write_11 ?_
    refine sMo_write_16 (fun _ => ?_) (fun z => absurd z (by decide))
    refine sMo_write_37 (fun z => absurd rfl z) (fun _ => ?_)
    have x3' := x3.fm F0 (by decide)
    refine sMo_write_41 (by omega) (Nat.le_of_ble_eq_true rfl) (mc_sayRow hC (by omega) (by decide) x3'.1 x3'.2 O0) ?_
    rintro μ1 ⟨g1, g2⟩
    rw [zMkS hS.2.1] at g1
    exact sMo_write_46 ⟨_, rfl, g1.1, fin μ1 _ g1 (F0.tr g2)⟩
  rw [if_neg q0]
  by_cases q1 : n = 1
  · subst q1
    rw [if_pos rfl]
    refine sMo_write_0 (fun z => absurd z (by decide)) (fun _ => ?_)
    refine sMo_write_4 (fun _ => ?_) (fun z => absurd (by decide) z)
    refine sMo_write_11 ?_
    refine sMo_write_16 (fun _ => ?_) (fun z => absurd z (by decide))
    refine sMo_write_37 (fun _ => ?_) (fun z => absurd z (by decide))
    refine sMo_write_49 (fun z => absurd (by decide) z) (fun _ => ?_)
    have hQ := hS.2.2.2.2.1
    have e35 : upd μ.1 5 (nI 0) 35 = nI Q.1 := by rw [pk_un (by decide)]; exact y6.1
    cases hq : Q.2.1 with
    | none =>
      have h0 := y6.2.1.mpr hq
      refine sMo_write_54 (fun _ => ?_) (fun z => absurd (show upd μ.1 5 (nI 0) 35 ≤ 0 by rw [e35, h0]; decide) z)
      refine sMo_write_69 (fun _ => ?_) (fun z => absurd z (by decide))
      exact sMo_write_87 ⟨_, rfl, pu_s, fin _ _ O0 F0⟩
    | some b =>
      have hne : Q.1 ≠ 0 := fun z => by rw [y6.2.1.mp z] at hq; cases hq
      refine sMo_write_54 (fun z => absurd (show nI Q.1 ≤ 0 by rw [← e35]; exact z) (nI_nle (by omega) (by omega))) (fun _ => ?_)
      have z2 := (y6.2.2.1 b hq).fm F0 (by decide)
      refine sMo_write_61 (by omega) (Nat.le_of_ble_eq_true rfl) (mc_sayRow hC (by omega) (by decide) z2.1 z2.2 O0) ?_
      rintro μ1 ⟨g1, g2⟩
      rw [if_pos rfl] at g1
      exact sMo_write_66 ⟨_, rfl, g1.1, fin μ1 _ g1 (F0.tr g2)⟩
  rw [if_neg q1]
  by_cases q2 : n = 2
  · subst q2
    rw [if_pos rfl]
    refine sMo_write_0 (fun z => absurd z (by decide)) (fun _ => ?_)
    refine sMo_write_4 (fun _ => ?_) (fun z => absurd (by decide) z)
    refine sMo_write_11 ?_
    refine sMo_write_16 (fun z => absurd (by decide) z) (fun _ => ?_)
    have y6' := y6.fm F0 (by decide) (by decide) (by decide) (by decide)
    obtain ⟨-, -, -, w1, w2, w3, w4⟩ := y6'
    refine sMo_write_21 (by omega) (Nat.le_of_ble_eq_true rfl) (by rw [w1]; exact mc_sayAll hC (by omega) mk_36 (by decide) w2 w3 (by rw [ml_36]; omega) O0 (by simp only [List.length_nil]; omega)) ?_
    rintro μ1 ⟨g1, g2⟩
    rw [List.nil_append] at g1
    exact sMo_write_34 ⟨_, rfl, g1.1, fin μ1 _ g1 (F0.tr g2)⟩
  rw [if_neg q2]
  by_cases q3 : n = 3
  · subst q3
    rw [if_pos rfl]
    refine sMo_write_0 (fun z => absurd z (by decide)) (fun _ => ?_)
    refine sMo_write_4 (fun _ => ?_) (fun z => absurd (by decide) z)
    refine sMo_write_11 ?_
    refine sMo_write_16 (fun _ => ?_) (fun z => absurd z (by decide))
    refine sMo_write_37 (fun _ => ?_) (fun z => absurd z (by decide))
    refine sMo_write_49 (fun _ => ?_) (fun z => absurd z (by decide))
    refine sMo_write_69 (fun z => absurd (by decide) z) (fun _ => ?_)
    have y7' := y7.fm F0 (fun k a b => (by simp only [List.mem_cons, List.not_mem_nil, or_false]; omega)) (by decide) (by decide)
    obtain ⟨-, -, -, w4, w5, -⟩ := y7'
    cases hc : C.2.1 with
    | none =>
      rw [hc] at w4
      refine sMo_write_74 (fun _ => ?_) (fun z => absurd (by rw [w4]; decide) z)
      exact sMo_write_87 ⟨_, rfl, pu_s, fin _ _ O0 F0⟩
    | some b =>
      rw [hc] at w4
      obtain ⟨v1, v2, -, -⟩ := w5 b hc
      refine sMo_write_74 (fun z => absurd (show zB1 (some b).isSome = 0 by rw [← w4]; exact z) (by show ¬ zB1 true = 0; decide)) (fun _ => ?_)
      refine sMo_write_81 (by omega) (Nat.le_of_ble_eq_true rfl) (mc_sayRow hC (by omega) (by decide) v1 v2 O0) ?_
      rintro μ1 ⟨g1, g2⟩
      have em : (if C.2.2.1.drop 1 = [] then [] else 35 :: C.2.2.1.drop 1) = C.2.2.1 := by
        rcases hS.2.2.2.2.2.2.2.2.2.1 with e | ⟨m, e, e2⟩
        · rw [e]; rfl
        · rw [e]
          have : m ≠ [] := fun z => by have := (zNm_all e2).1; rw [z] at this; simp at this
          show (if m = [] then [] else 35 :: m) = 35 :: m
          rw [if_neg this]
      rw [em] at g1
      exact sMo_write_87 ⟨_, rfl, g1.1, fin μ1 _ g1 (F0.tr g2)⟩
  rw [if_neg q3]
  refine sMo_write_0 (fun _ => sMo_write_9 (mPo.same rfl h)) (fun z => ?_)
  refine sMo_write_4 (fun w => ?_) (fun _ => sMo_write_9 (mPo.same rfl h))
  obtain ⟨j, hj, rfl⟩ := nI_of z
  have hle := (nI_leI (by omega) (by omega)).mp w
  have e0 : j ≠ 0 := fun e => q0 (by rw [e]; exact nI_0)
  have e1 : j ≠ 1 := fun e => q1 (by rw [e]; decide)
  have e2 : j ≠ 2 := fun e => q2 (by rw [e]; decide)
  have e3 : j ≠ 3 := fun e => q3 (by rw [e]; decide)
  omega
end MT
