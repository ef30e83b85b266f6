/-- the SEGMENTS that the model holds -/
def mSgs (μ : zMm) (s : List (List Nat)) : Prop := μ.1 12 = nI s.length ∧ (∀ i, i < s.length → μ.2 10 i = nI (s.take i).flatten.length ∧ μ.2 11 i = nI (s.getD i []).length) ∧ mN (μ.2 9) 0 s.flatten ∧ zLo s.flatten
theorem mSgs.fm {I Ar Rw : List Nat} {μ μ' : zMm} {s : List (List Nat)} (h : mSgs μ s) (f : mFm I Ar Rw μ μ') (h1 : 12 ∉ I) (h2 : 9 ∉ Ar) (h3 : 10 ∉ Ar) (h4 : 11 ∉ Ar) : mSgs μ' s := by
  obtain ⟨a, b, c, e⟩ := h
  refine ⟨(f.1 12 h1).trans a, fun i hi => ?_, ?_, e⟩
  · rw [f.2.1 10 h3 (by decide) (by decide) (by decide), f.2.1 11 h4 (by decide) (by decide) (by decide)]
    exact b i hi
  · rw [f.2.1 9 h2 (by decide) (by decide) (by decide)]
    exact c
theorem flat_drop {s : List (List Nat)} (hs : s ≠ []) : s.flatten = s.dropLast.flatten ++ s.getLast hs := by
  conv => lhs; rw [← List.dropLast_concat_getLast hs]
  rw [List.flatten_append]; simp
theorem flat_app1 {s : List (List Nat)} {x : List Nat} : (s ++ [x]).flatten = s.flatten ++ x := by rw [List.flatten_append]; simp
theorem gD_lo {s : List (List Nat)} {x : List Nat} {j : Nat} (h : j < s.length) : (s ++ [x]).getD j [] = s.getD j [] := by
  rw [List.getD_eq_getElem?_getD, List.getD_eq_getElem?_getD, List.getElem?_append_left h]
theorem gD_hi {s : List (List Nat)} {x : List Nat} : (s ++ [x]).getD s.length [] = x := by
  rw [List.getD_eq_getElem?_getD, List.getElem?_append_right (Nat.le_refl _), Nat.sub_self]; rfl
theorem pu_s {f : Nat → Int32} {g : Nat → Nat → Int32} {k : Nat} {v : Int32} : ((upd f k v, g) : zMm).1 k = v := pk_us
section MC
variable {G : zG} {d : Nat} {ad : Nat → Nat} {μ : zMm} {c k a : Nat} {t x y p : List Nat} {A B : zA} {s : List (List Nat)}
theorem mc_segment (hC : zCs G) (hk : mB k) (hk9 : k ≠ 9) (hS : mSgs μ s) (hx : mN (μ.2 k) a x) (hxl : zLo x) (ha : a + x.length ≤ mLn k) (hb1 : s.length < 2099) (hb2 : s.flatten.length + x.length ≤ 2200) : mC G d ad M_Mo_segment [.ref (ad 50), .ref (ad k), .int (nI a), .int (nI x.length)] μ (mPv fun μ' => mSgs μ' (zSt s x) ∧ μ'.1 14 = zB1 (zDot x) ∧ mFm [12, 14] [9, 10, 11] [] μ μ') := by
  have hmk := mLn_le k
  obtain ⟨s1, s2, s3, s4⟩ := hS
  refine mC_in [some (.ref (ad 50)), some (.ref (ad k)), some (.int (nI a)), some (.int (nI x.length)), none] pn_Mo_segment hC.1 rfl (Nat.le_of_ble_eq_true rfl) rfl ?_
  -- a segment that stays
  have push : zDot x = false → mW G d ad M_Mo_segment 74 [some (.ref (ad 50)), some (.ref (ad k)), some (.int (nI a)), some (.int (nI x.length)), none] [] (upd μ.1 14 (nI 0), μ.2) (mPv fun μ' => mSgs μ' (zSt s x) ∧ μ'.1 14 = zB1 (zDot x) ∧ mFm [12, 14] [9, 10, 11] [] μ μ') := by
    intro hdot
    rw [hdot, zSt_no hdot]
    have e12 : upd μ.1 14 (nI 0) 12 = nI s.length := by rw [pk_un (by decide)]; exact s1
    refine sMo_segment_74 (fun _ => ?_) (fun z => absurd (show upd μ.1 14 (nI 0) 14 = 0 by rw [pk_us]; exact nI_0) z)
    -- behind the offset
    have rest : ∀ f10 : Nat → Int32, (∀ i, i < s.length → f10 i = μ.2 10 i) → f10 s.length = nI s.flatten.length → mW G d ad M_Mo_segment 125 [some (.ref (ad 50)), some (.ref (ad k)), some (.int (nI a)), some (.int (nI x.length)), none] [] (upd μ.1 14 (nI 0), fun q => if q = 10 then f10 else μ.2 q) (mPv fun μ' => mSgs μ' (s ++ [x]) ∧ μ'.1 14 = zB1 false ∧ mFm [12, 14] [9, 10, 11] [] μ μ') := by
      intro f10 h10 h10n
      refine sMo_segment_125 (i := s.length) e12 (by rw [ml_11]; omega) ?_
      refine sMo_segment_135 ?_
      have main : ∀ n i (μ1 : zMm), i + n = x.length → mFm [12, 14] [9, 10, 11] [] μ μ1 → μ1.1 12 = nI s.length → μ1.1 14 = nI 0 → μ1.2 10 = f10 → (∀ j, j < s.length → μ1.2 11 j = μ.2 11 j) → μ1.2 11 s.length = nI x.length → mN (μ1.2 9) 0 (s.flatten ++ x.take i) → mW G d ad M_Mo_segment 138 [some (.ref (ad 50)), some (.ref (ad k)), some (.int (nI a)), some (.int (nI x.length)), some (.int (nI i))] [] μ1 (mPv fun μ' => mSgs μ' (s ++ [x]) ∧ μ'.1 14 = zB1 false ∧ mFm [12, 14] [9, 10, 11] [] μ μ') := by
        intro n
        induction n with
        | zero =>
          intro i μ1 hi hF e12 e14 e10 e11 e11n e9
          refine sMo_segment_138 (fun _ => ?_) (fun z => absurd (nI_le (by omega) (by omega)) z)
          refine sMo_segment_173 ?_
          refine sMo_segment_183 ⟨rfl, ⟨?_, fun j hj => ?_, ?_, ?_⟩, ?_, hF.pi (by decide)⟩
          · dsimp only
            rw [pk_us, e12, nI_add, List.length_append]; rfl
          · rw [List.length_append] at hj
            simp only [List.length_cons, List.length_nil] at hj
            show μ1.2 10 j = _ ∧ μ1.2 11 j = _
            rw [e10]
            by_cases q : j < s.length
            · rw [h10 j q, e11 j q, List.take_append_of_le_length (by omega), gD_lo q]
              exact s2 j q
            · have : j = s.length := (by omega)
              subst this
              rw [h10n, e11n, List.take_left, gD_hi]
              exact ⟨rfl, rfl⟩
          · rw [flat_app1]
            rw [List.take_of_length_le (by omega)] at e9
            exact e9
          · rw [flat_app1]; exact zLo_app s4 hxl
          · dsimp only
            rw [pk_un (by decide), e14]; decide
        | succ n ih =>
          intro i μ1 hi hF e12 e14 e10 e11 e11n e9
          refine sMo_segment_138 (fun z => absurd z (nI_ge (by omega) (by omega))) (fun _ => ?_)
          have ek : μ1.2 k (a + i) = nI (x.getD i 0) := by
            rcases hk with ⟨k1, k2, k3⟩
            by_cases h6 : k = 6
            · subst h6
              have := (hF.2.2 ((a + i) / 150) List.not_mem_nil).2.2 ((a + i) % 150) (Nat.mod_lt _ (by decide))
              rw [show (a + i) / 150 * 150 + (a + i) % 150 = a + i by omega] at this
              rw [this]
              exact hx i (by omega)
            · have h7 : k ≠ 7 := fun z => by subst z; exact absurd k3 (by decide)
              have h8 : k ≠ 8 := fun z => by subst z; exact absurd k3 (by decide)
              have h10 : k ≠ 10 := fun z => by subst z; exact absurd k3 (by decide)
              have h11 : k ≠ 11 := fun z => by subst z; exact absurd k3 (by decide)
              rw [hF.2.1 k (by simp only [List.mem_cons, List.not_mem_nil, or_false]; omega) h6 h7 h8]
              exact hx i (by omega)
          refine sMo_segment_144 (i1 := s.length) e12 (by rw [ml_10]; omega) hk (i2 := a + i) (nI_add _ _) (by omega) (i := s.flatten.length + i) (by rw [e10, h10n, nI_add]) (by rw [ml_9]; omega) ?_
          refine sMo_segment_167 ?_
          rw [nI_add]
          refine ih (i + 1) _ (by omega) (hF.pa (by decide) (by decide) (by decide) (by decide)) e12 e14 ?_ ?_ ?_ ?_
          · dsimp only
            rw [updA_n (by decide)]; exact e10
          · intro j hj
            dsimp only
            rw [updA_n (by decide)]; exact e11 j hj
          · dsimp only
            rw [updA_n (by decide)]; exact e11n
          · dsimp only
            rw [updA_s, ek, n8 (hxl.at i)]
            rw [take_s (by omega), ← List.append_assoc, mN_app]
            have hl : (s.flatten ++ x.take i).length = s.flatten.length + i := by rw [List.length_append, List.length_take]; omega
            refine ⟨fun j hj => ?_, fun j hj => ?_⟩
            · rw [hl] at hj
              rw [pk_un (by omega)]; exact e9 j (by rw [hl]; exact hj)
            · simp only [List.length_cons, List.length_nil] at hj
              rw [show j = 0 by omega, hl, Nat.zero_add, Nat.add_zero, pk_us]; rfl
      refine main x.length 0 _ (by omega) ?_ ?_ ?_ ?_ ?_ ?_ ?_
      · refine mFm.pa ?_ (by decide) (by decide) (by decide) (by decide)
        refine ⟨fun j hj => ?_, fun j hj _ _ _ => ?_, fun r _ => ⟨rfl, rfl, fun _ _ => rfl⟩⟩
        · dsimp only
          exact pk_un (fun e => hj (by rw [e]; decide))
        · show (if j = 10 then f10 else μ.2 j) = _
          rw [if_neg (fun e => hj (by rw [e]; decide))]
      · exact e12
      · dsimp only; exact pk_us
      · dsimp only
        rw [updA_n (by decide)]; rfl
      · intro j hj
        dsimp only
        rw [updA_s, pk_un (by omega)]; rfl
      · dsimp only
        rw [updA_s, pk_us]
      · dsimp only
        rw [updA_n (by decide)]
        show mN (μ.2 9) 0 (s.flatten ++ x.take 0)
        rw [List.take_zero, List.append_nil]
        exact s3
    have eA : ∀ v : Int32, updA μ.2 10 s.length v = fun q => if q = 10 then upd (μ.2 10) s.length v else μ.2 q := fun v => rfl
    by_cases h0 : s = []
    · refine sMo_segment_82 (fun z => absurd (show upd μ.1 14 (nI 0) 12 = 0 by rw [e12, h0]; exact nI_0) z) (fun _ => ?_)
      refine sMo_segment_97 mk_10 (i := s.length) e12 (by rw [ml_10]; omega) ?_
      have := rest (upd (μ.2 10) s.length (nI 0)) (fun i hi => pk_un (by omega)) (by rw [pk_us, h0]; rfl)
      rw [← eA] at this
      exact this
    · have hpos : 1 ≤ s.length := List.length_pos_iff.mpr h0
      have em : upd μ.1 14 (nI 0) 12 - nI 1 = nI (s.length - 1) := by rw [e12]; exact pk_sub hpos
      refine sMo_segment_82 (fun _ => ?_) (fun z => absurd (show nI s.length = 0 by rw [← e12]; exact z) (nI_ne0 (by omega) (by omega)))
      refine sMo_segment_101 (i1 := s.length - 1) em (by rw [ml_10]; omega) (i2 := s.length - 1) em (by rw [ml_11]; omega) mk_10 (i := s.length) e12 (by rw [ml_10]; omega) ?_
      have e2 := s2 (s.length - 1) (by omega)
      have := rest (upd (μ.2 10) s.length (nI s.flatten.length)) (fun i hi => pk_un (by omega)) pk_us
      rw [← eA] at this
      show mW G d ad M_Mo_segment 125 _ [] (upd μ.1 14 (nI 0), updA μ.2 10 s.length (μ.2 10 (s.length - 1) + μ.2 11 (s.length - 1))) _
      rw [e2.1, e2.2, nI_add, flat_last h0]
      exact this
  have no : zDot x = false → mW G d ad M_Mo_segment 41 [some (.ref (ad 50)), some (.ref (ad k)), some (.int (nI a)), some (.int (nI x.length)), none] [.ref (ad 50)] μ (mPv fun μ' => mSgs μ' (zSt s x) ∧ μ'.1 14 = zB1 (zDot x) ∧ mFm [12, 14] [9, 10, 11] [] μ μ') := by
    intro hdot
    refine sMo_segment_41 rfl rfl ?_
    refine sMo_segment_45 (fun _ => push hdot) (fun _ => ?_)
    exact sMo_segment_50 (fun _ => push hdot) (fun z => absurd (show upd μ.1 14 (nI 0) 14 = 0 by rw [pk_us]; exact nI_0) z)
  by_cases h1 : x.length = 1
  · obtain ⟨c0, rfl⟩ : ∃ c0, x = [c0] := List.length_eq_one_iff.mp h1
    have e0 : μ.2 k a = nI c0 := by have := hx 0 (Nat.succ_pos _); rw [Nat.add_zero] at this; exact this
    have l0 : c0 < 128 := hxl c0 mem1
    refine sMo_segment_0 (fun z => absurd rfl z) (fun _ => ?_)
    refine sMo_segment_6 hk rfl (by simp only [List.length_cons, List.length_nil] at ha; omega) (fun z => ?_) (fun z => ?_)
    · rw [e0] at z
      have := (nI_eq (by omega) (by omega)).mp z
      subst this
      refine sMo_segment_37 rfl rfl ?_
      refine sMo_segment_45 (fun _ => ?_) (fun z => absurd z (by decide))
      refine sMo_segment_74 (fun z => absurd (show nI 1 = 0 from (show upd μ.1 14 (nI 1) 14 = nI 1 from pk_us).symm.trans z) (by decide)) (fun _ => ?_)
      refine sMo_segment_81 ⟨rfl, ⟨?_, s2, s3, s4⟩, pu_s, mFm.rf.pi (by decide)⟩
      dsimp only
      rw [pk_un (by decide)]; exact s1
    · rw [e0] at z
      have hd : zDot [c0] = false := (Bool.not_eq_true _).mp (fun w => (zDot_iff.mp w).elim (fun q => z (by rw [(List.cons.inj q).1])) (fun q => by cases q))
      exact sMo_segment_14 (fun _ => no hd) (fun w => absurd (show nI 1 = nI 2 from w) (by decide))
  · refine sMo_segment_0 (fun _ => ?_) (fun z => absurd ((nI_eq (by omega) (by omega)).mp z) h1)
    by_cases h2 : x.length = 2
    · obtain ⟨c0, c1, rfl⟩ : ∃ c0 c1, x = [c0, c1] := by
        cases x with
        | nil => cases h2
        | cons c0 l =>
          cases l with
          | nil => cases h2
          | cons c1 l =>
            cases l with
            | nil => exact ⟨c0, c1, rfl⟩
            | cons c2 l => simp at h2
      have e0 : μ.2 k a = nI c0 := by have := hx 0 (Nat.succ_pos _); rw [Nat.add_zero] at this; exact this
      have e1 : μ.2 k (a + 1) = nI c1 := hx 1 (Nat.succ_lt_succ (Nat.succ_pos _))
      have l0 : c0 < 128 := hxl c0 List.mem_cons_self
      have l1 : c1 < 128 := hxl c1 (List.mem_cons_of_mem _ mem1)
      simp only [List.length_cons, List.length_nil] at ha
      refine sMo_segment_14 (fun z => absurd rfl z) (fun _ => ?_)
      refine sMo_segment_19 hk rfl (by omega) (fun z => ?_) (fun z => ?_)
      · rw [e0] at z
        exact no ((Bool.not_eq_true _).mp (fun w => (zDot_iff.mp w).elim (fun q => by cases q) (fun q => z (by rw [(List.cons.inj q).1]))))
      · rw [e0] at z
        have z0 := (nI_eq (by omega) (by omega)).mp z
        refine sMo_segment_27 hk (i1 := a + 1) (nI_add _ _) (by omega) (fun z => ?_) (fun z => ?_)
        · rw [e1] at z
          exact no ((Bool.not_eq_true _).mp (fun w => (zDot_iff.mp w).elim (fun q => by cases q) (fun q => z (by rw [(List.cons.inj (List.cons.inj q).2).1]))))
        · rw [e1] at z
          have z1 := (nI_eq (by omega) (by omega)).mp z
          subst z0 z1
          have hst : zSt s [46, 46] = s.dropLast := rfl
          rw [hst]
          have e12 : upd μ.1 14 (nI 1) 12 = nI s.length := by rw [pk_un (by decide)]; exact s1
          refine sMo_segment_37 rfl rfl ?_
          refine sMo_segment_45 (fun z => absurd rfl z) (fun _ => ?_)
          refine sMo_segment_50 (fun z => absurd (show nI 1 = 0 from (show upd μ.1 14 (nI 1) 14 = nI 1 from pk_us).symm.trans z) (by decide)) (fun _ => ?_)
          by_cases h0 : s = []
          · refine sMo_segment_57 (fun _ => ?_) (fun z => absurd (show upd μ.1 14 (nI 1) 12 ≤ 0 by rw [e12, h0]; decide) z)
            refine sMo_segment_74 (fun z => absurd (show nI 1 = 0 from (show upd μ.1 14 (nI 1) 14 = nI 1 from pk_us).symm.trans z) (by decide)) (fun _ => ?_)
            refine sMo_segment_81 ⟨rfl, ⟨?_, ?_, ?_, ?_⟩, pu_s, mFm.rf.pi (by decide)⟩
            · rw [h0] at e12 ⊢; exact e12
            · rw [h0]; intro i hi; exact absurd hi (Nat.not_lt_zero _)
            · rw [h0]; intro i hi; exact absurd hi (Nat.not_lt_zero _)
            · rw [h0]; intro c hc; cases hc
          · have hpos : 1 ≤ s.length := List.length_pos_iff.mpr h0
            refine sMo_segment_57 (fun z => absurd (show nI s.length ≤ 0 by rw [← e12]; exact z) (nI_nle (by omega) (by omega))) (fun _ => ?_)
            refine sMo_segment_64 ?_
            have e14 : upd (upd μ.1 14 (nI 1)) 12 (upd μ.1 14 (nI 1) 12 - nI 1) 14 = nI 1 := by rw [pk_un (by decide)]; exact pk_us
            refine sMo_segment_74 (fun z => absurd (show nI 1 = 0 by rw [← e14]; exact z) (by decide)) (fun _ => ?_)
            have hfd := flat_drop h0
            refine sMo_segment_81 ⟨rfl, ⟨?_, fun i hi => ?_, ?_, ?_⟩, e14, (mFm.rf.pi (by decide)).pi (by decide)⟩
            · dsimp only
              rw [pk_us, e12, pk_sub hpos, List.length_dropLast]
            · rw [List.length_dropLast] at hi
              have e2 := s2 i (by omega)
              rw [List.dropLast_eq_take, List.take_take, Nat.min_eq_left (by omega)]
              refine ⟨e2.1, ?_⟩
              rw [show (s.take (s.length - 1)).getD i [] = s.getD i [] by rw [List.getD_eq_getElem?_getD, List.getD_eq_getElem?_getD, List.getElem?_take, if_pos (by omega)]]
              exact e2.2
            · rw [hfd, mN_app] at s3
              exact s3.1
            · intro c hc
              exact s4 c (by rw [hfd]; exact List.mem_append_left _ hc)
    · refine sMo_segment_14 (fun _ => no ((Bool.not_eq_true _).mp (fun w => (zDot_iff.mp w).elim (fun q => h1 (by rw [q]; rfl)) (fun q => h2 (by rw [q]; rfl))))) (fun z => absurd ((nI_eq (by omega) (by omega)).mp z) h2)
end MC
