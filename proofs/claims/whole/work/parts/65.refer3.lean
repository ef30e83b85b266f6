/-- an ADDRESS in row r -/
def mRw (μ : zMm) (r : Nat) (A : zA) : Prop := mPw μ r (zPl A) ∧ mMk μ r (A.2.2.2.drop 1)
theorem zNr_tw {m : List Nat} : (zNr m = 0 ∧ zNm (m.take (zTw zNc m)) = false) ∨ (zNr m = zTw zNc m ∧ 1 ≤ zNr m ∧ zNr m ≤ 8 ∧ zNm (m.take (zTw zNc m)) = true) := by
  have htw := tw_le zNc m
  have hlen : (m.take (zTw zNc m)).length = zTw zNc m := by rw [List.length_take]; omega
  have hall : (m.take (zTw zNc m)).all zNc = true := List.all_eq_true.mpr (tw_split (p := zNc) (t := m)).2.1
  cases m with
  | nil => exact Or.inl ⟨rfl, by decide⟩
  | cons c l =>
    by_cases e : zSm c = true
    · have hnc : zNc c = true := by unfold zNc; rw [e]; rfl
      have htc : zTw zNc (c :: l) = 1 + zTw zNc l := by
        unfold zTw
        rw [List.takeWhile_cons, hnc]
        show (List.takeWhile zNc l).length + 1 = 1 + (List.takeWhile zNc l).length
        omega
      have htk : (c :: l).take (zTw zNc (c :: l)) = c :: l.take (zTw zNc l) := by rw [htc, Nat.add_comm]; rfl
      have htl := tw_le zNc l
      have hl2 : zTw zNc (l.take (zTw zNc l)) = zTw zNc l := by rw [tw_take]; omega
      have hl3 : (l.take (zTw zNc l)).length = zTw zNc l := by rw [List.length_take]; omega
      by_cases h8 : 1 + zTw zNc l ≤ 8
      · refine Or.inr ⟨?_, ?_, ?_, ?_⟩
        · show (if zSm c = true then (if 1 + zTw zNc l ≤ 8 then 1 + zTw zNc l else 0) else 0) = _
          rw [if_pos e, if_pos h8, htc]
        · show 1 ≤ (if zSm c = true then (if 1 + zTw zNc l ≤ 8 then 1 + zTw zNc l else 0) else 0)
          rw [if_pos e, if_pos h8]; omega
        · show (if zSm c = true then (if 1 + zTw zNc l ≤ 8 then 1 + zTw zNc l else 0) else 0) ≤ 8
          rw [if_pos e, if_pos h8]; omega
        · rw [htk, zNm_nr]
          refine ⟨by simp, ?_⟩
          show (if zSm c = true then (if 1 + zTw zNc (l.take (zTw zNc l)) ≤ 8 then 1 + zTw zNc (l.take (zTw zNc l)) else 0) else 0) = _
          rw [if_pos e, hl2, if_pos h8, List.length_cons, hl3]; omega
      · refine Or.inl ⟨?_, ?_⟩
        · show (if zSm c = true then (if 1 + zTw zNc l ≤ 8 then 1 + zTw zNc l else 0) else 0) = _
          rw [if_pos e, if_neg h8]
        · rw [htk]
          refine (Bool.not_eq_true _).mp (fun w => ?_)
          have := (zNm_all w).2.1
          rw [List.length_cons, hl3] at this
          omega
    · refine Or.inl ⟨?_, (Bool.not_eq_true _).mp (fun w => ?_)⟩
      · show (if zSm c = true then (if 1 + zTw zNc l ≤ 8 then 1 + zTw zNc l else 0) else 0) = _
        rw [if_neg e]
      · obtain ⟨w1, w2⟩ := zNm_nr.mp w
        cases ht : zTw zNc (c :: l) with
        | zero => rw [ht] at w1; exact w1 rfl
        | succ n =>
          rw [ht] at w2
          have : zNr ((c :: l).take (n + 1)) = 0 := by
            show (if zSm c = true then (if 1 + zTw zNc (l.take n) ≤ 8 then 1 + zTw zNc (l.take n) else 0) else 0) = _
            rw [if_neg e]
          rw [this] at w2
          simp at w2
theorem tw_pre {p : Nat → Bool} {x R : List Nat} (h : R = [] ∨ ∃ c l, R = c :: l ∧ p c = false) : zTw p (x ++ R) = zTw p x := by
  unfold zTw
  rw [List.takeWhile_append]
  split
  · next e =>
    rcases h with rfl | ⟨c, l, rfl, hc⟩
    · rw [List.takeWhile_nil, List.append_nil, e]
    · rw [List.takeWhile_cons, hc]
      show (x ++ []).length = _
      rw [List.append_nil, e]
  · rfl
theorem fold_mem : ∀ {xs s : List (List Nat)} {y : List Nat}, y ∈ xs.foldl zSt s → y ∈ s ∨ y ∈ xs := by
  intro xs
  induction xs with
  | nil => intro s y h; exact Or.inl h
  | cons x l ih =>
    intro s y h
    rw [List.foldl_cons] at h
    rcases ih h with h | h
    · unfold zSt at h
      split at h
      · exact Or.inl ((List.dropLast_sublist _).subset h)
      · split at h
        · exact Or.inl h
        · rcases List.mem_append.mp h with h | h
          · exact Or.inl h
          · exact Or.inr (by rw [List.mem_singleton.mp h]; exact List.mem_cons_self)
    · exact Or.inr (List.mem_cons_of_mem _ h)
theorem spl_le {t : List Nat} : (zSpl 47 t).length ≤ t.length + 1 ∧ (zSpl 47 t).flatten.length ≤ t.length := by
  have h := congrArg List.length (spl_flat (t := t))
  rw [flat_len, List.length_cons] at h
  have h2 : 1 ≤ (zSpl 47 t).length := List.length_pos_iff.mpr spl_ne
  omega
section MF
variable {G : zG} {d : Nat} {ad : Nat → Nat} {μ : zMm} {to fr r : Nat} {t : List Nat} {B : zA}
/-- what reading a REFERENCE has come to -/
def zRp (μ : zMm) (u : List Nat) (B : zA) (q : Int32) (μ' : zMm) : Prop := (zRead u B = none → q = 0) ∧ (∀ A, zRead u B = some A → q = 1 ∧ mRw μ' 0 A ∧ μ'.1 12 = nI A.2.1.length) ∧ mFm [12, 14, 15] [9, 10, 11] [0] μ μ'
theorem mc_refer (hC : zCs G) (hd : 6 ≤ d) (ht : mN (μ.2 2) 0 t) (hlo : zLo t) (htl : t.length ≤ 2000) (hft : fr ≤ to) (hto : to ≤ t.length) (hr0 : r ≠ 0) (hr : r < 66) (hB : mPw μ r (zPl B)) (hw : zWf B) : mC G d ad M_Mo_refer [.ref (ad 50), .ref (ad 2), .int (nI fr), .int (nI to), .int (nI r)] μ (mPi fun q μ' => zRp μ (zSli t fr to) B q μ') := by
  have hul := sli_len (t := t) (a := fr) hto
  have hulo : zLo (zSli t fr to) := sli_lo hlo
  have hbs := hw.2.2.1
  have hbf := hw.fl
  have hbn := (zNm_all hw.1).2.1
  have at' : ∀ {μ1 : zMm}, mN (μ1.2 2) 0 t → ∀ i, i < t.length → μ1.2 2 i = nI (t.getD i 0) := fun h i hi => by have := h i hi; rw [Nat.zero_add] at this; exact this
  have tx : ∀ {μ1 : zMm}, mFm [12, 14, 15] [9, 10, 11] [0] μ μ1 → mN (μ1.2 2) 0 t := fun f => by
    rw [f.2.1 2 (by decide) (by decide) (by decide) (by decide)]
    exact ht
  have bx : ∀ {μ1 : zMm}, mFm [12, 14, 15] [9, 10, 11] [0] μ μ1 → mPw μ1 r (zPl B) := fun f => hB.ra (f.2.2 r (fun z => hr0 (List.mem_singleton.mp z)))
  have up1 : ∀ {μ1 μ2 : zMm}, mFm [12, 14, 15] [9, 10, 11] [] μ1 μ2 → mFm [12, 14, 15] [9, 10, 11] [0] μ1 μ2 := fun f => f.mono (fun _ z => z) (fun _ z => z) (fun _ z => by cases z)
  have up2 : ∀ {μ1 μ2 : zMm}, mFm [12, 14] [9, 10, 11] [] μ1 μ2 → mFm [12, 14, 15] [9, 10, 11] [0] μ1 μ2 := fun f => f.mono (fun k z => by revert z; simp only [List.mem_cons, List.not_mem_nil, or_false]; omega) (fun _ z => z) (fun _ z => by cases z)
  have up3 : ∀ {μ1 μ2 : zMm}, mFm [] [] [0] μ1 μ2 → mFm [12, 14, 15] [9, 10, 11] [0] μ1 μ2 := fun f => f.mono (fun _ z => by cases z) (fun _ z => by cases z) (fun _ z => z)
  have up4 : ∀ {μ1 μ2 : zMm}, mFm [15] [] [0] μ1 μ2 → mFm [12, 14, 15] [9, 10, 11] [0] μ1 μ2 := fun f => f.mono (fun k z => by revert z; simp only [List.mem_cons, List.not_mem_nil, or_false]; omega) (fun _ z => by cases z) (fun _ z => z)
  -- SEGMENTS, QUERY and MARK go out
  have outp : ∀ (μ1 : zMm) (o6 o7 : Option Value) (site : List Nat) (s2 : List (List Nat)) (p2 : Nat) (path : Bool), mSgs μ1 s2 → mPw μ1 0 ([47, 47] ++ site) → site.length ≤ 8 → μ1.2 8 0 = nI 0 → (∀ x ∈ s2, x.length ≤ 12) → μ1.1 15 = nI p2 → p2 ≤ to → s2.length ≤ 2099 → mFm [12, 14, 15] [9, 10, 11] [0] μ μ1 → (zRead (zSli t fr to) B = if s2.length ≤ 6 then (zTail (zSli t p2 to)).map (fun q => (site, s2, if path = false ∧ q.1 = [] then B.2.2.1 else q.1, q.2)) else none) → mW G d ad M_Mo_refer 277 [some (.ref (ad 50)), some (.ref (ad 2)), some (.int (nI fr)), some (.int (nI to)), some (.int (nI r)), some (.int (zB1 path)), o6, o7] [] μ1 (mPi fun q μ' => zRp μ (zSli t fr to) B q μ') := by
    intro μ1 o6 o7 site s2 p2 path hS hpw hsl h8 h12 h15 hp2 hs2 hF hz
    by_cases h6 : s2.length ≤ 6
    · rw [if_pos h6] at hz
      refine sMo_refer_277 (fun _ => ?_) (fun z => absurd (show μ1.1 12 ≤ nI 6 by rw [hS.1]; exact nI_le h6 (by omega)) z)
      refine sMo_refer_288 ?_
      have hfl12 : ∀ i, i ≤ s2.length → (zFlat (s2.take i)).length ≤ 13 * i := fun i hi => by
        have := zFlat_len (s := s2.take i) (k := 12) (fun x hx => h12 x (List.mem_of_mem_take hx))
        rw [List.length_take, Nat.min_eq_left hi] at this
        omega
      have hlp : ([47, 47] ++ site).length ≤ 10 := by rw [List.length_append]; simp only [List.length_cons, List.length_nil]; omega
      have sg : ∀ {μ2 : zMm}, mFm [] [] [0] μ1 μ2 → mSgs μ2 s2 := fun f => hS.fm f List.not_mem_nil List.not_mem_nil List.not_mem_nil List.not_mem_nil
      have main : ∀ n i (μ2 : zMm) (o7 : Option Value), i + n = s2.length → mFm [] [] [0] μ1 μ2 → μ2.2 8 = μ1.2 8 → mPw μ2 0 ([47, 47] ++ site ++ zFlat (s2.take i)) → mW G d ad M_Mo_refer 291 [some (.ref (ad 50)), some (.ref (ad 2)), some (.int (nI fr)), some (.int (nI to)), some (.int (nI r)), some (.int (zB1 path)), some (.int (nI i)), o7] [] μ2 (mPi fun q μ' => zRp μ (zSli t fr to) B q μ') := by
        intro n
        induction n with
        | zero =>
          intro i μ2 o7 hi hF2 f8 fp
          have hS2 := sg hF2
          rw [List.take_of_length_le (by omega)] at fp
          have hff := hfl12 s2.length (Nat.le_refl _)
          rw [List.take_of_length_le (Nat.le_refl _)] at hff
          have hF3 := hF.tr (up3 hF2)
          refine sMo_refer_291 (fun _ => ?_) (fun z => absurd (show μ2.1 12 ≤ nI i by rw [hS2.1]; exact nI_le (by omega) (by omega)) z)
          refine sMo_refer_354 (by omega) (Nat.le_of_ble_eq_true rfl) (mc_queryM hC (by omega) (tx hF3) hlo htl ((hF2.1 15 List.not_mem_nil).trans h15) hto hp2 fp (by rw [List.length_append]; omega) (by rw [f8]; exact h8) hr0 hr (bx hF3) hw path) ?_
          rintro q μ3 ⟨k1, k2, k3⟩
          have hn : narrow .boolean (.int q) = .int q := by
            cases hzt : zTail (zSli t p2 to) with
            | none => rw [k1 hzt]; rfl
            | some qq => rw [(k2 qq hzt).1]; rfl
          refine sMo_refer_364 hn ⟨_, rfl, fun w => ?_, fun A hA => ?_, hF3.tr (up4 k3)⟩
          · rw [hz] at w
            cases hzt : zTail (zSli t p2 to) with
            | none => exact k1 hzt
            | some qq => rw [hzt] at w; cases w
          · rw [hz] at hA
            cases hzt : zTail (zSli t p2 to) with
            | none => rw [hzt] at hA; cases hA
            | some qq =>
              rw [hzt] at hA
              cases hA
              obtain ⟨k4, k5, k6⟩ := k2 qq hzt
              exact ⟨k4, ⟨k5, k6⟩, (k3.1 12 (by decide)).trans hS2.1⟩
        | succ n ih =>
          intro i μ2 o7 hi hF2 f8 fp
          have hS2 := sg hF2
          have hil : i < s2.length := (by omega)
          have hxx := h12 (s2.getD i []) (by rw [List.getD_eq_getElem?_getD, List.getElem?_eq_getElem hil]; exact List.getElem_mem hil)
          have hff := hfl12 i (by omega)
          have et : zFlat (s2.take (i + 1)) = zFlat (s2.take i) ++ (47 :: s2.getD i []) := by
            rw [List.take_succ_eq_append_getElem hil, zFlat_app, List.getD_eq_getElem?_getD, List.getElem?_eq_getElem hil]; rfl
          have exf : s2.flatten = (s2.take i).flatten ++ ((s2.getD i []) ++ (s2.drop (i + 1)).flatten) := by
            conv => lhs; rw [← List.take_append_drop i s2, List.drop_eq_getElem_cons hil]
            rw [List.flatten_append, List.flatten_cons, List.getD_eq_getElem?_getD, List.getElem?_eq_getElem hil]; rfl
          have hby := hS.2.2.1
          rw [exf, mN_app, Nat.zero_add] at hby
          have hby2 := (mN_app.mp hby.2).1
          have hxlo : zLo (s2.getD i []) := fun c hc => hS.2.2.2 c (by rw [exf]; exact List.mem_append_right _ (List.mem_append_left _ hc))
          have h2200 : s2.flatten.length ≤ 78 := by have := flat_len (s := s2); have := hfl12 s2.length (Nat.le_refl _); rw [List.take_of_length_le (Nat.le_refl _)] at this; omega
          have hle2 : (s2.take i).flatten.length + (s2.getD i []).length ≤ s2.flatten.length := by rw [exf, List.length_append, List.length_append]; omega
          refine sMo_refer_291 (fun z => absurd (show nI s2.length ≤ nI i by rw [← hS2.1]; exact z) (nI_ge (by omega) (by omega))) (fun _ => ?_)
          refine sMo_refer_300 (by omega) (Nat.le_of_ble_eq_true rfl) (mc_put hC (by decide) fp (by rw [List.length_append]; omega) (by decide)) ?_
          rintro μ3 ⟨g1, g2, g3⟩
          refine sMo_refer_307 ?_
          have inner : ∀ m j (μ4 : zMm), j + m = (s2.getD i []).length → mFm [] [] [0] μ1 μ4 → μ4.2 8 = μ1.2 8 → mPw μ4 0 ([47, 47] ++ site ++ zFlat (s2.take i) ++ [47] ++ (s2.getD i []).take j) → mW G d ad M_Mo_refer 310 [some (.ref (ad 50)), some (.ref (ad 2)), some (.int (nI fr)), some (.int (nI to)), some (.int (nI r)), some (.int (zB1 path)), some (.int (nI i)), some (.int (nI j))] [] μ4 (mPi fun q μ' => zRp μ (zSli t fr to) B q μ') := by
            intro m
            induction m with
            | zero =>
              intro j μ4 hj hF4 f84 fp4
              have hS4 := sg hF4
              rw [List.take_of_length_le (show (s2.getD i []).length ≤ j by omega)] at fp4
              refine sMo_refer_310 (i1 := i) rfl (by rw [ml_11]; omega) (fun _ => ?_) (fun z => absurd (show μ4.2 11 i ≤ nI j by rw [(hS4.2.1 i hil).2]; exact nI_le (by omega) (by omega)) z)
              refine sMo_refer_348 ?_
              rw [nI_add]
              refine ih (i + 1) μ4 _ (by omega) hF4 f84 ?_
              rw [et]
              have e2 : [47, 47] ++ site ++ zFlat (s2.take i) ++ [47] ++ s2.getD i [] = [47, 47] ++ site ++ (zFlat (s2.take i) ++ 47 :: s2.getD i []) := by simp only [List.append_assoc]; rfl
              rw [e2] at fp4
              exact fp4
            | succ m ihm =>
              intro j μ4 hj hF4 f84 fp4
              have hS4 := sg hF4
              refine sMo_refer_310 (i1 := i) rfl (by rw [ml_11]; omega) (fun z => absurd (show nI (s2.getD i []).length ≤ nI j by rw [← (hS4.2.1 i hil).2]; exact z) (nI_ge (by omega) (by omega))) (fun _ => ?_)
              have eb : μ4.2 9 ((s2.take i).flatten.length + j) = nI ((s2.getD i []).getD j 0) := by
                rw [hF4.2.1 9 List.not_mem_nil (by decide) (by decide) (by decide)]
                exact hby2 j (by omega)
              have hl4 : ([47, 47] ++ site ++ zFlat (s2.take i) ++ [47] ++ (s2.getD i []).take j).length < 135 := by
                rw [List.length_append, List.length_append, List.length_append, List.length_take]
                simp only [List.length_cons, List.length_nil]
                omega
              refine sMo_refer_322 (i1 := i) rfl (by rw [ml_10]; omega) (i2 := (s2.take i).flatten.length + j) (by rw [(hS4.2.1 i hil).1, nI_add]) (by rw [ml_9]; omega) (by omega) (Nat.le_of_ble_eq_true rfl) (by rw [eb]; exact mc_put hC (by decide) fp4 hl4 (hxlo.at j)) ?_
              rintro μ5 ⟨q1, q2, q3⟩
              refine sMo_refer_342 ?_
              rw [nI_add]
              refine ihm (j + 1) μ5 (by omega) (hF4.tr q2) (q3.trans f84) ?_
              rw [take_s (by omega), ← List.append_assoc]
              exact q1
          exact inner (s2.getD i []).length 0 μ3 (by omega) (hF2.tr g2) (g3.trans f8) (by rw [List.take_zero, List.append_nil]; exact g1)
      exact main s2.length 0 μ1 o7 (by omega) mFm.rf rfl (by rw [List.take_zero]; show mPw μ1 0 ([47, 47] ++ site ++ []); rw [List.append_nil]; exact hpw)
    · rw [if_neg h6] at hz
      refine sMo_refer_277 (fun z => absurd (show nI s2.length ≤ nI 6 by rw [← hS.1]; exact z) (nI_ge (by omega) (by omega))) (fun _ => ?_)
      exact sMo_refer_286 rfl ⟨_, rfl, fun _ => by decide, (fun A hA => by rw [hz] at hA; cases hA), hF⟩
  -- the end of the path
  have endp : ∀ (μ1 : zMm) (o6 o7 : Option Value) (site : List Nat) (s1 : List (List Nat)) (w : Bool) (p2 : Nat) (path : Bool), mSgs μ1 s1 → μ1.1 14 = zB1 w → mPw μ1 0 ([47, 47] ++ site) → site.length ≤ 8 → μ1.2 8 0 = nI 0 → (∀ x ∈ s1, x.length ≤ 12) → μ1.1 15 = nI p2 → p2 ≤ to → s1.length < 2099 → s1.flatten.length ≤ 2200 → mFm [12, 14, 15] [9, 10, 11] [0] μ μ1 → (zRead (zSli t fr to) B = if (zEnd w s1).length ≤ 6 then (zTail (zSli t p2 to)).map (fun q => (site, zEnd w s1, if path = false ∧ q.1 = [] then B.2.2.1 else q.1, q.2)) else none) → ∀ pc, (pc = 135 ∨ pc = 256) → mW G d ad M_Mo_refer pc [some (.ref (ad 50)), some (.ref (ad 2)), some (.int (nI fr)), some (.int (nI to)), some (.int (nI r)), some (.int (zB1 path)), o6, o7] [] μ1 (mPi fun q μ' => zRp μ (zSli t fr to) B q μ') := by
    intro μ1 o6 o7 site s1 w p2 path hS h14 hpw hsl h8 h12 h15 hp2 hs2 hs3 hF hz pc hpc
    have add : zEnd w s1 = s1 ++ [[]] → mW G d ad M_Mo_refer 270 [some (.ref (ad 50)), some (.ref (ad 2)), some (.int (nI fr)), some (.int (nI to)), some (.int (nI r)), some (.int (zB1 path)), o6, o7] [] μ1 (mPi fun q μ' => zRp μ (zSli t fr to) B q μ') := by
      intro he
      refine sMo_refer_270 (by omega) (Nat.le_of_ble_eq_true rfl) (mc_segment (x := []) hC mk_2 (by decide) hS (fun j hj => absurd hj (Nat.not_lt_zero _)) (fun c hc => by cases hc) (by rw [ml_2]; simp only [List.length_nil]; omega) hs2 (by simp only [List.length_nil]; omega)) ?_
      rintro μ2 ⟨g1, g2, g3⟩
      have hst : zSt s1 [] = s1 ++ [[]] := rfl
      rw [hst, ← he] at g1
      have hF2 := hF.tr (up2 g3)
      have hra := (g3.2.2 0 List.not_mem_nil)
      refine outp μ2 o6 o7 site (zEnd w s1) p2 path g1 (hpw.ra hra) hsl (hra.2.1.trans h8) (fun x hx => ?_) ((g3.1 15 (by decide)).trans h15) hp2 (by rw [he, List.length_append]; simp only [List.length_cons, List.length_nil]; omega) hF2 hz
      rw [he] at hx
      rcases List.mem_append.mp hx with q | q
      · exact h12 x q
      · rw [List.mem_singleton.mp q]; exact Nat.zero_le _
    have both : (¬ μ1.1 14 = 0 → mW G d ad M_Mo_refer 270 [some (.ref (ad 50)), some (.ref (ad 2)), some (.int (nI fr)), some (.int (nI to)), some (.int (nI r)), some (.int (zB1 path)), o6, o7] [] μ1 (mPi fun q μ' => zRp μ (zSli t fr to) B q μ')) ∧ (μ1.1 14 = 0 → mW G d ad M_Mo_refer 263 [some (.ref (ad 50)), some (.ref (ad 2)), some (.int (nI fr)), some (.int (nI to)), some (.int (nI r)), some (.int (zB1 path)), o6, o7] [] μ1 (mPi fun q μ' => zRp μ (zSli t fr to) B q μ')) := by
      refine ⟨fun z => ?_, fun z => ?_⟩
      · rw [h14] at z
        exact add (if_pos (Or.inl ((zB1_n _).mp z)))
      · rw [h14] at z
        have hwf := (zB1_z _).mp z
        by_cases h0 : s1 = []
        · exact sMo_refer_263 (fun y => absurd (show μ1.1 12 = 0 by rw [hS.1, h0]; exact nI_0) y) (fun _ => add (if_pos (Or.inr h0)))
        · have hne : zEnd w s1 = s1 := if_neg (fun y => y.elim (fun y => by rw [hwf] at y; cases y) h0)
          rw [hne] at hz
          have hpos : 1 ≤ s1.length := List.length_pos_iff.mpr h0
          refine sMo_refer_263 (fun _ => ?_) (fun y => absurd (show nI s1.length = 0 by rw [← hS.1]; exact y) (nI_ne0 (by omega) (by omega)))
          exact outp μ1 o6 o7 site s1 p2 path hS hpw hsl h8 h12 h15 hp2 (by omega) hF hz
    rcases hpc with rfl | rfl
    · exact sMo_refer_135 both.1 both.2
    · exact sMo_refer_256 both.1 both.2
  have hzr := (zRefer_eq (t := zSli t fr to) (B := B)).symm
  have sp := tw_split (p := zPg) (t := zSli t fr to)
  have hPlen : ((zSli t fr to).take (zTw zPg (zSli t fr to))).length = zTw zPg (zSli t fr to) := by rw [List.length_take]; have := tw_le zPg (zSli t fr to); omega
  unfold zRefer at hzr
  generalize hPe : (zSli t fr to).take (zTw zPg (zSli t fr to)) = P at hzr sp hPlen
  generalize hRe : (zSli t fr to).drop (zTw zPg (zSli t fr to)) = R at hzr sp
  obtain ⟨hu, hPg, hRh⟩ := sp
  have hPall : P.all zPg = true := List.all_eq_true.mpr hPg
  have hPR : P.length + R.length = to - fr := by rw [← List.length_append, ← hu, hul]
  have hR47 : R = [] ∨ ∃ c l, R = c :: l ∧ c ≠ 47 := hRh.imp id (fun ⟨c, l, e, h⟩ => ⟨c, l, e, fun z => by rw [z] at h; exact absurd h (by decide)⟩)
  have hRsg : R = [] ∨ ∃ c l, R = c :: l ∧ zSg c = false := hRh.imp id (fun ⟨c, l, e, h⟩ => ⟨c, l, e, by
    cases q : zSg c with
    | false => rfl
    | true => rw [zSg_pg q] at h; cases h⟩)
  -- the head is known: what goes out
  have hzs : ∀ {site : List Nat} {s2 : List (List Nat)} {path : Bool}, zHead P B = some (site, s2) → (path = false ↔ P = []) → zRead (zSli t fr to) B = (zTail R).map (fun q => (site, s2, if path = false ∧ q.1 = [] then B.2.2.1 else q.1, q.2)) := by
    intro site s2 path h1 h2
    rw [hzr, h1]
    show (zTail R).map _ = _
    congr 1
    funext q
    by_cases hp : P = []
    · rw [h2.mpr hp]; simp [hp]
    · have : path = true := by cases path with
        | true => rfl
        | false => exact absurd (h2.mp rfl) hp
      rw [this]; simp [hp]
  have hzn : zHead P B = none → zRead (zSli t fr to) B = none := fun h => by rw [hzr, h]; rfl
  have gu : ∀ j, j < to - fr → (zSli t fr to).getD j 0 = t.getD (fr + j) 0 := fun j hj => sli_get hj
  have sdrop : ∀ {x : List Nat} {k : Nat}, zSli t fr to = x ++ R → k = x.length → zSli t (fr + k) to = R := fun {x k} h hk => by rw [← sli_drop, h, hk, List.drop_left]
  refine mC_in [some (.ref (ad 50)), some (.ref (ad 2)), some (.int (nI fr)), some (.int (nI to)), some (.int (nI r)), none, none, none] pn_Mo_refer hC.1 rfl (Nat.le_of_ble_eq_true rfl) rfl ?_
  refine sMo_refer_0 ?_
  refine sMo_refer_5 rfl rfl ?_
  refine sMo_refer_10 ?_
  refine sMo_refer_15 (i := 0) rfl (by rw [ml_7]; omega) ?_
  refine sMo_refer_22 (i := 0) rfl (by rw [ml_8]; omega) ?_
  have F0 : mFm [12, 14, 15] [9, 10, 11] [0] μ (upd (upd (upd μ.1 12 (nI 0)) 14 (nI 0)) 15 (nI fr), updA (updA μ.2 7 0 (nI 0)) 8 0 (nI 0)) := ((((mFm.rf.pi (k := 12) (by decide)).pi (k := 14) (by decide)).pi (k := 15) (by decide)).p7 (i := 0) mem1).p8 (i := 0) mem1
  have e12 : upd (upd (upd μ.1 12 (nI 0)) 14 (nI 0)) 15 (nI fr) 12 = nI 0 := by rw [pk_un (by decide), pk_un (by decide), pk_us]
  have e14 : upd (upd (upd μ.1 12 (nI 0)) 14 (nI 0)) 15 (nI fr) 14 = nI 0 := by rw [pk_un (by decide), pk_us]
  have e15 : upd (upd (upd μ.1 12 (nI 0)) 14 (nI 0)) 15 (nI fr) 15 = nI fr := pk_us
  have e7 : updA (updA μ.2 7 0 (nI 0)) 8 0 (nI 0) 7 0 = nI 0 := by rw [updA_n (by decide), updA_s, pk_us]
  have e8 : updA (updA μ.2 7 0 (nI 0)) 8 0 (nI 0) 8 0 = nI 0 := by rw [updA_s, pk_us]
  generalize hμ0 : (upd (upd (upd μ.1 12 (nI 0)) 14 (nI 0)) 15 (nI fr), updA (updA μ.2 7 0 (nI 0)) 8 0 (nI 0)) = μ0 at F0
  have i12 : μ0.1 12 = nI 0 := by rw [← hμ0]; exact e12
  have i14 : μ0.1 14 = nI 0 := by rw [← hμ0]; exact e14
  have i15 : μ0.1 15 = nI fr := by rw [← hμ0]; exact e15
  have i7 : μ0.2 7 0 = nI 0 := by rw [← hμ0]; exact e7
  have i8 : μ0.2 8 0 = nI 0 := by rw [← hμ0]; exact e8
  clear e12 e14 e15 e7 e8 hμ0
  have S0 : mSgs μ0 [] := ⟨i12, (fun i hi => absurd hi (Nat.not_lt_zero _)), (fun i hi => absurd hi (Nat.not_lt_zero _)), (fun c hc => by cases hc)⟩
  have W0 : mPw μ0 0 [] := ⟨i7, (fun i hi => absurd hi (Nat.not_lt_zero _)), Nat.zero_le _, (fun c hc => by cases hc)⟩
  -- another site's row stays
  have caseB : ¬ (zSli t fr to).take 2 = [47, 47] → mW G d ad M_Mo_refer 138 [some (.ref (ad 50)), some (.ref (ad 2)), some (.int (nI fr)), some (.int (nI to)), some (.int (nI r)), some (.int (nI 1)), none, none] [] μ0 (mPi fun q μ' => zRp μ (zSli t fr to) B q μ') := by
    intro hn2
    have hP2 : ¬ P.take 2 = [47, 47] := fun z => hn2 (by
      have hl : 2 ≤ P.length := take_len z rfl
      rw [hu, List.take_append_of_le_length hl]; exact z)
    have hBw := bx F0
    refine sMo_refer_138 (by omega) (Nat.le_of_ble_eq_true rfl) (mc_siteEnd hC hr hBw hw) ?_
    rintro q μ1 ⟨rfl, rfl⟩
    refine sMo_refer_144 ?_
    have gs : ∀ j, j < 2 + B.1.length → (zPl B).getD j 0 = ([47, 47] ++ B.1).getD j 0 := fun j hj => by
      have l0 : ([47, 47] ++ B.1).length = 2 + B.1.length := by rw [List.length_append]; rfl
      have e0 : zPl B = ([47, 47] ++ B.1) ++ (zFlat B.2.1 ++ B.2.2.1) := by unfold zPl; rw [List.append_assoc]
      rw [e0, getD_app_lo (by rw [l0]; exact hj)]
    have lB : ([47, 47] ++ B.1).length = 2 + B.1.length := by rw [List.length_append]; rfl
    have hBlo : zLo ([47, 47] ++ B.1) := zLo_app zLo_47 (zLo_all zNc_lo (zNm_all hw.1).2.2)
    have hpl3 := (zPl_get hw).2.2
    -- behind the site
    have aft : ∀ (μ2 : zMm) (o6 o7 : Option Value), mFm [] [] [0] μ1 μ2 → μ2.2 8 = μ1.2 8 → mPw μ2 0 ([47, 47] ++ B.1) → mW G d ad M_Mo_refer 181 [some (.ref (ad 50)), some (.ref (ad 2)), some (.int (nI fr)), some (.int (nI to)), some (.int (nI r)), some (.int (nI 1)), o6, o7] [] μ2 (mPi fun q μ' => zRp μ (zSli t fr to) B q μ') := by
      intro μ2 o6 o7 hF2 f8 fp
      have F2 := F0.tr (up3 hF2)
      have T2 := tx F2
      have S2 : mSgs μ2 [] := S0.fm hF2 List.not_mem_nil List.not_mem_nil List.not_mem_nil List.not_mem_nil
      have j14 : μ2.1 14 = nI 0 := (hF2.1 14 List.not_mem_nil).trans i14
      have j15 : μ2.1 15 = nI fr := (hF2.1 15 List.not_mem_nil).trans i15
      have j8 : μ2.2 8 0 = nI 0 := by rw [f8]; exact i8
      have Re2 : mRe μ2 t [] fr := ⟨T2, hlo, htl, S2, j15⟩
      -- nothing of a path
      have caseN : P = [] → mW G d ad M_Mo_refer 246 [some (.ref (ad 50)), some (.ref (ad 2)), some (.int (nI fr)), some (.int (nI to)), some (.int (nI r)), some (.int (nI 1)), o6, o7] [] μ2 (mPi fun q μ' => zRp μ (zSli t fr to) B q μ') := by
        intro hP0
        have := mc_baseSegments (ad := ad) (d := d - 1) hC (by omega) hr (bx F2) hw S2 j14 true
        rw [zB1_t, if_pos rfl] at this
        refine sMo_refer_246 (by omega) (Nat.le_of_ble_eq_true rfl) this ?_
        rintro μ3 ⟨g1, g2, g3⟩
        have hra := g3.2.2 0 List.not_mem_nil
        have hend : zEnd false B.2.1 = B.2.1 := if_neg (fun y => y.elim (fun y => by cases y) hw.2.1)
        have hR0 : zSli t fr to = R := by rw [hu, hP0]; rfl
        have := endp μ3 o6 o7 B.1 B.2.1 false fr false g1 (g2.trans (by decide)) (fp.ra hra) (by omega) (hra.2.1.trans j8) (fun x hx => (hw.2.2.2.1 x hx).1) ((g3.1 15 (by decide)).trans j15) hft (by omega) (by have := flat_len (s := B.2.1); omega) (F2.tr (up2 g3)) (by
          rw [hend, if_pos hbs, hR0, ← hR0]
          rw [hzs (site := B.1) (s2 := B.2.1) (path := false) (by rw [hP0]; rfl) ⟨fun _ => hP0, fun _ => rfl⟩, ← hR0]) 256 (Or.inr rfl)
        rw [zB1_f] at this
        exact this
      by_cases hle : to ≤ fr
      · refine sMo_refer_181 (fun _ => sMo_refer_205 (fun _ => caseN ?_) (fun z => absurd (nI_le hle (by omega)) z)) (fun z => absurd (nI_le hle (by omega)) z)
        have : P.length = 0 := by omega
        exact List.length_eq_zero_iff.mp this
      · refine sMo_refer_181 (fun z => absurd z (nI_ge (by omega) (by omega))) (fun _ => ?_)
        have hcl := hlo.at fr
        have hhd : zSli t fr to = t.getD fr 0 :: zSli t (fr + 1) to := sli_hd (by omega) hto
        refine sMo_refer_186 mk_2 rfl (by rw [ml_2]; omega) (fun z => ?_) (fun z => ?_)
        · rw [at' T2 fr (by omega)] at z
          have hn47 : t.getD fr 0 ≠ 47 := fun w => z (by rw [w])
          refine sMo_refer_205 (fun z => absurd z (nI_ge (by omega) (by omega))) (fun _ => ?_)
          refine sMo_refer_210 mk_2 rfl (by rw [ml_2]; omega) (by omega) (Nat.le_of_ble_eq_true rfl) (by rw [at' T2 fr (by omega)]; exact mc_segm hC (by omega) hcl) ?_
          rintro q μ3 ⟨rfl, rfl⟩
          by_cases hsg : zSg (t.getD fr 0) = true
          · rw [hsg]
            refine sMo_refer_216 (fun z => absurd z (by decide)) (fun _ => ?_)
            have hPne : P ≠ [] := fun z => by
              rw [z, List.nil_append] at hu
              rw [hhd] at hu
              rcases hRh with e | ⟨c, l, e, h⟩
              · rw [e] at hu; cases hu
              · rw [e] at hu
                have := (List.cons.inj hu).1
                rw [← this, zSg_pg hsg] at h
                cases h
            have hP1 : ¬ P.take 1 = [47] := fun z => by
              cases hPc : P with
              | nil => exact hPne hPc
              | cons c l =>
                rw [hPc] at hu z
                rw [hhd] at hu
                have h1 := (List.cons.inj hu).1
                have h2 := (List.cons.inj z).1
                exact hn47 (h1.trans h2)
            have := mc_baseSegments (ad := ad) (d := d - 1) hC (by omega) hr (bx F2) hw S2 j14 false
            rw [zB1_f, if_neg (by decide)] at this
            refine sMo_refer_219 (by omega) (Nat.le_of_ble_eq_true rfl) this ?_
            rintro μ4 ⟨g1, g2, g3⟩
            have hra := g3.2.2 0 List.not_mem_nil
            have F4 := F2.tr (up2 g3)
            have hspl := spl_le (t := P)
            have hsp2 := spl_pg hPall
            cases hsplit : zSpl 47 P with
            | nil => exact absurd hsplit spl_ne
            | cons x xs =>
              rw [hsplit] at hspl hsp2
              rw [List.length_cons, List.flatten_cons, List.length_append] at hspl
              have hPx : P = x ++ zFlat xs := spl_hd hsplit
              have hux : zSli t fr to = x ++ (zFlat xs ++ R) := by rw [hu, hPx, List.append_assoc]
              have hdl : B.2.1.dropLast.length ≤ 6 := by rw [List.length_dropLast]; omega
              have hdf : B.2.1.dropLast.flatten.length ≤ 78 := by
                have h1 := flat_len (s := B.2.1)
                rw [flat_drop hw.2.1, List.length_append] at h1
                omega
              have hz3 : zHead P B = if zPok B.2.1.dropLast P = true then some (B.1, zTk B.2.1.dropLast (x :: xs)) else none := by
                unfold zHead
                rw [if_neg hP2, if_neg hP1, if_neg hPne, zPath_eq, hsplit]
                split <;> rfl
              have Re4 : mRe μ4 t B.2.1.dropLast fr := ⟨tx F4, hlo, htl, g1, (g3.1 15 (by decide)).trans j15⟩
              have hr1 : zFlat xs ++ R = [] ∨ ∃ c l, zFlat xs ++ R = c :: l ∧ zSg c = false := by
                cases xs with
                | nil => exact hRsg
                | cons y l => exact Or.inr ⟨47, y ++ zFlat l ++ R, by rw [zFlat_cons]; rfl, by decide⟩
              refine sMo_refer_226 (by omega) (Nat.le_of_ble_eq_true rfl) (mc_oneSegment hC (by omega) Re4 hto hft (by omega) (by omega) hux (hsp2 x List.mem_cons_self) hr1) ?_
              rintro q μ5 ⟨k1, k2, k3⟩
              by_cases hx12 : x.length ≤ 12
              · obtain ⟨rfl, k4, k5⟩ := k2 hx12
                refine sMo_refer_232 (fun z => absurd z (by decide)) (fun _ => ?_)
                have hPl : P.length = x.length + (zFlat xs).length := by rw [hPx, List.length_append]
                have hfl := fold_len (xs := [x]) (s := B.2.1.dropLast)
                simp only [List.foldl_cons, List.foldl_nil, List.length_cons, List.length_nil, List.flatten_cons, List.flatten_nil, List.append_nil] at hfl
                have hsl2 : zSli t (fr + x.length) to = zFlat xs ++ R := by rw [← sli_drop, hux, List.drop_left]
                refine sMo_refer_235 (by omega) (Nat.le_of_ble_eq_true rfl) (mc_segments hC (by omega) hto hR47 (fun _ => hRsg) k4 (by omega) (by omega) (by omega) hsl2 (fun y hy => hsp2 y (List.mem_cons_of_mem _ hy)) k5) ?_
                rintro q μ6 ⟨n1, n2, n3⟩
                by_cases hall : ∀ y ∈ xs, y.length ≤ 12
                · obtain ⟨rfl, n4, n5⟩ := n2 hall
                  refine sMo_refer_241 (fun _ => ?_) (fun z => absurd z (by decide))
                  have hall' : (x :: xs).all (fun y => Nat.ble y.length 12) = true := List.all_eq_true.mpr (fun y hy => by
                    rcases List.mem_cons.mp hy with rfl | hy
                    · exact Nat.ble_eq_true_of_le hx12
                    · exact Nat.ble_eq_true_of_le (hall y hy))
                  have htk : zEnd (zLw (zDot x) xs) (xs.foldl zSt (zSt B.2.1.dropLast x)) = zTk B.2.1.dropLast (x :: xs) := by
                    rw [← zLw_cons (w := false)]
                    exact zTk_fold (s := B.2.1.dropLast) (by simp)
                  have hra5 := k3.2.2 0 List.not_mem_nil
                  have hra6 := n3.2.2 0 List.not_mem_nil
                  have hfl2 := fold_len (xs := xs) (s := zSt B.2.1.dropLast x)
                  have := endp μ6 o6 o7 B.1 (xs.foldl zSt (zSt B.2.1.dropLast x)) (zLw (zDot x) xs) (fr + x.length + (zFlat xs).length) true n4.2.2.2.1 n5 (((fp.ra hra).ra hra5).ra hra6) (by omega) (hra6.2.1.trans (hra5.2.1.trans (hra.2.1.trans j8))) (fun y hy => ?_) n4.2.2.2.2 (by omega) (by omega) (by omega) ((F4.tr (up1 k3)).tr (up1 n3)) ?_ 256 (Or.inr rfl)
                  · rw [zB1_t] at this; exact this
                  · rcases fold_mem hy with hy | hy
                    · rcases fold_mem (xs := [x]) (s := B.2.1.dropLast) hy with hy | hy
                      · exact (hw.2.2.2.1 y ((List.dropLast_sublist _).subset hy)).1
                      · rw [List.mem_singleton.mp hy]; exact hx12
                    · exact hall y hy
                  · rw [htk, show fr + x.length + (zFlat xs).length = fr + P.length by omega, sdrop hu rfl]
                    by_cases h6 : (zTk B.2.1.dropLast (x :: xs)).length ≤ 6
                    · rw [if_pos h6]
                      refine hzs ?_ ⟨(fun z => by cases z), fun z => absurd z hPne⟩
                      rw [hz3, if_pos]
                      unfold zPok
                      rw [hPall, hsplit, hall', Nat.ble_eq_true_of_le h6]; rfl
                    · rw [if_neg h6]
                      apply hzn
                      rw [hz3, if_neg]
                      unfold zPok
                      rw [hsplit]
                      intro z
                      exact h6 (Nat.le_of_ble_eq_true (Bool.and_eq_true_iff.mp z).2)
                · have := n1 hall
                  subst this
                  refine sMo_refer_241 (fun z => absurd rfl z) (fun _ => sMo_refer_244 rfl ⟨_, rfl, fun _ => by decide, (fun A hA => ?_), (F4.tr (up1 k3)).tr (up1 n3)⟩)
                  rw [hzn (by
                    rw [hz3, if_neg]
                    unfold zPok
                    rw [hsplit]
                    intro z
                    refine hall (fun y hy => Nat.le_of_ble_eq_true (List.all_eq_true.mp (Bool.and_eq_true_iff.mp (Bool.and_eq_true_iff.mp z).1).2 y (List.mem_cons_of_mem _ hy)))) ] at hA
                  cases hA
              · have := k1 (by omega)
                subst this
                refine sMo_refer_232 (fun _ => sMo_refer_244 rfl ⟨_, rfl, fun _ => by decide, (fun A hA => ?_), F4.tr (up1 k3)⟩) (fun z => absurd rfl z)
                rw [hzn (by
                  rw [hz3, if_neg]
                  unfold zPok
                  rw [hsplit]
                  intro z
                  exact hx12 (Nat.le_of_ble_eq_true (List.all_eq_true.mp (Bool.and_eq_true_iff.mp (Bool.and_eq_true_iff.mp z).1).2 x List.mem_cons_self)))] at hA
                cases hA
          · rw [(Bool.not_eq_true _).mp hsg]
            refine sMo_refer_216 (fun _ => caseN ?_) (fun z => absurd (by decide) z)
            cases hPc : P with
            | nil => rfl
            | cons c l =>
              rw [hPc, hhd] at hu
              have h1 := (List.cons.inj hu).1
              have h2 := hPg c (by rw [hPc]; exact List.mem_cons_self)
              exact absurd (zPg_sg h2 (fun w => hn47 (h1.trans w))) (by rw [← h1]; exact hsg)
        · rw [at' T2 fr (by omega)] at z
          have h47 := (nI_eq (by omega) (by omega)).mp z
          obtain ⟨P1, hP1⟩ : ∃ P1, P = 47 :: P1 := by
            cases hPc : P with
            | nil =>
              rw [hPc, List.nil_append, hhd, h47] at hu
              rcases hRh with e | ⟨c, l, e, h⟩
              · rw [e] at hu; cases hu
              · rw [e] at hu
                rw [← (List.cons.inj hu).1] at h
                exact absurd h (by decide)
            | cons c l =>
              rw [hPc, hhd, h47] at hu
              rw [← (List.cons.inj hu).1]
              exact ⟨l, rfl⟩
          have hP1all : P1.all zPg = true := by rw [hP1, List.all_cons] at hPall; exact (Bool.and_eq_true_iff.mp hPall).2
          have hspl := spl_le (t := P1)
          have hsp2 := spl_pg hP1all
          have hfx : zFlat (zSpl 47 P1) = P := by rw [spl_flat, hP1]
          have hPl : P.length = P1.length + 1 := by rw [hP1, List.length_cons]
          have hz3 : zHead P B = if zPok [] P1 = true then some (B.1, zTk [] (zSpl 47 P1)) else none := by
            unfold zHead
            rw [if_neg hP2, if_pos (by rw [hP1]; rfl), hP1]
            show (zPath [] P1).map _ = _
            rw [zPath_eq]
            split <;> rfl
          have j14' : μ2.1 14 = zB1 false := j14.trans (by decide)
          refine sMo_refer_194 (by omega) (Nat.le_of_ble_eq_true rfl) (mc_segments hC (by omega) hto hR47 (fun _ => hRsg) Re2 hft (by simp only [List.length_nil]; omega) (by simp only [List.flatten_nil, List.length_nil]; omega) (by rw [hfx]; exact hu) hsp2 j14') ?_
          rintro q μ3 ⟨n1, n2, n3⟩
          by_cases hall : ∀ y ∈ zSpl 47 P1, y.length ≤ 12
          · obtain ⟨rfl, n4, n5⟩ := n2 hall
            refine sMo_refer_200 (fun _ => ?_) (fun z => absurd z (by decide))
            have hall' : (zSpl 47 P1).all (fun y => Nat.ble y.length 12) = true := List.all_eq_true.mpr (fun y hy => Nat.ble_eq_true_of_le (hall y hy))
            have htk := zTk_fold (s := []) (w := false) (spl_ne (c := 47) (x := P1))
            have hra6 := n3.2.2 0 List.not_mem_nil
            have hfl2 := fold_len (xs := zSpl 47 P1) (s := [])
            simp only [List.length_nil, List.flatten_nil] at hfl2
            have := endp μ3 o6 o7 B.1 ((zSpl 47 P1).foldl zSt []) (zLw false (zSpl 47 P1)) (fr + (zFlat (zSpl 47 P1)).length) true n4.2.2.2.1 n5 (fp.ra hra6) (by omega) (hra6.2.1.trans j8) (fun y hy => ?_) n4.2.2.2.2 (by rw [hfx]; omega) (by omega) (by omega) (F2.tr (up1 n3)) ?_ 256 (Or.inr rfl)
            · rw [zB1_t] at this; exact this
            · rcases fold_mem hy with hy | hy
              · cases hy
              · exact hall y hy
            · rw [htk, hfx, sdrop hu rfl]
              by_cases h6 : (zTk [] (zSpl 47 P1)).length ≤ 6
              · rw [if_pos h6]
                refine hzs ?_ ⟨(fun z => by cases z), (fun z => by rw [hP1] at z; cases z)⟩
                rw [hz3, if_pos]
                unfold zPok
                rw [hP1all, hall', Nat.ble_eq_true_of_le h6]; rfl
              · rw [if_neg h6]
                apply hzn
                rw [hz3, if_neg]
                unfold zPok
                intro z
                exact h6 (Nat.le_of_ble_eq_true (Bool.and_eq_true_iff.mp z).2)
          · have := n1 hall
            subst this
            refine sMo_refer_200 (fun z => absurd rfl z) (fun _ => sMo_refer_203 rfl ⟨_, rfl, fun _ => by decide, (fun A hA => ?_), F2.tr (up1 n3)⟩)
            rw [hzn (by
              rw [hz3, if_neg]
              unfold zPok
              intro z
              refine hall (fun y hy => Nat.le_of_ble_eq_true (List.all_eq_true.mp (Bool.and_eq_true_iff.mp (Bool.and_eq_true_iff.mp z).1).2 y hy)))] at hA
            cases hA
    have main : ∀ n j (μ2 : zMm), j + n = 2 + B.1.length → mFm [] [] [0] μ1 μ2 → μ2.2 8 = μ1.2 8 → mPw μ2 0 (([47, 47] ++ B.1).take j) → mW G d ad M_Mo_refer 149 [some (.ref (ad 50)), some (.ref (ad 2)), some (.int (nI fr)), some (.int (nI to)), some (.int (nI r)), some (.int (nI 1)), some (.int (nI (2 + B.1.length))), some (.int (nI j))] [] μ2 (mPi fun q μ' => zRp μ (zSli t fr to) B q μ') := by
      intro n
      induction n with
      | zero =>
        intro j μ2 hj hF2 f8 fp
        rw [List.take_of_length_le (by rw [lB]; omega)] at fp
        exact sMo_refer_149 (fun _ => aft μ2 _ _ hF2 f8 fp) (fun z => absurd (nI_le (by omega) (by omega)) z)
      | succ n ih =>
        intro j μ2 hj hF2 f8 fp
        have hBw2 := bx (F0.tr (up3 hF2))
        refine sMo_refer_149 (fun z => absurd z (nI_ge (by omega) (by omega))) (fun _ => ?_)
        refine sMo_refer_156 (i1 := r * 150 + j) (by rw [pk_mul, nI_add]) (by rw [ml_6]; omega) (by omega) (Nat.le_of_ble_eq_true rfl) (by rw [hBw2.2.1 j (by omega), gs j (by omega)]; exact mc_put hC (by decide) fp (by rw [List.length_take]; omega) (hBlo.at j)) ?_
        rintro μ3 ⟨g1, g2, g3⟩
        refine sMo_refer_175 ?_
        rw [nI_add]
        refine ih (j + 1) μ3 (by omega) (hF2.tr g2) (g3.trans f8) ?_
        rw [take_s (by rw [lB]; omega)]
        exact g1
    exact main (2 + B.1.length) 0 μ1 (by omega) mFm.rf rfl (by rw [List.take_zero]; exact W0)
  have T0 := tx F0
  by_cases hsh : to ≤ fr + 1
  · refine sMo_refer_29 (fun _ => caseB (fun z => ?_)) (fun z => absurd (show nI to ≤ nI fr + nI 1 by rw [nI_add]; exact nI_le hsh (by omega)) z)
    have := take_len z rfl
    omega
  refine sMo_refer_29 (fun z => absurd (show nI to ≤ nI (fr + 1) by rw [← nI_add]; exact z) (nI_ge (by omega) (by omega))) (fun _ => ?_)
  have c0 := hlo.at fr
  have c1 := hlo.at (fr + 1)
  have hh2 : zSli t fr to = t.getD fr 0 :: t.getD (fr + 1) 0 :: zSli t (fr + 2) to := by rw [sli_hd (by omega) hto, sli_hd (by omega) hto]
  refine sMo_refer_39 mk_2 rfl (by rw [ml_2]; omega) (fun z => caseB (fun w => ?_)) (fun z => ?_)
  · rw [at' T0 fr (by omega)] at z
    rw [hh2] at w
    exact z (by rw [(List.cons.inj w).1])
  rw [at' T0 fr (by omega)] at z
  have z0 := (nI_eq (by omega) (by omega)).mp z
  refine sMo_refer_47 mk_2 (i1 := fr + 1) (nI_add _ _) (by rw [ml_2]; omega) (fun z => caseB (fun w => ?_)) (fun z => ?_)
  · rw [at' T0 (fr + 1) (by omega)] at z
    rw [hh2] at w
    exact z (by rw [(List.cons.inj (List.cons.inj w).2).1])
  rw [at' T0 (fr + 1) (by omega)] at z
  have z1 := (nI_eq (by omega) (by omega)).mp z
  rw [z0, z1] at hh2
  -- a site of its own
  have hml := sli_len (t := t) (a := fr + 2) hto
  have hmlo : zLo (zSli t (fr + 2) to) := sli_lo hlo
  refine sMo_refer_57 (by omega) (Nat.le_of_ble_eq_true rfl) (by rw [nI_add]; exact mc_nameEnd hC (by omega) mk_2 T0 hlo (by rw [ml_2]; omega) (a := fr + 2) (by omega) hto) ?_
  rintro q μ1 ⟨rfl, rfl⟩
  generalize hme : zSli t (fr + 2) to = m at hh2 hml hmlo
  obtain ⟨P2, hP2⟩ : ∃ P2, P = 47 :: 47 :: P2 := by
    rw [hh2] at hu
    cases hPc : P with
    | nil =>
      rw [hPc, List.nil_append] at hu
      rcases hRh with e | ⟨c, l, e, h⟩
      · rw [e] at hu; cases hu
      · rw [e] at hu
        rw [← (List.cons.inj hu).1] at h
        exact absurd h (by decide)
    | cons a l =>
      cases l with
      | nil =>
        rw [hPc] at hu
        rcases hRh with e | ⟨c, l, e, h⟩
        · rw [e] at hu; cases hu
        · rw [e] at hu
          have := (List.cons.inj (List.cons.inj hu).2).1
          rw [← this] at h
          exact absurd h (by decide)
      | cons b l =>
        rw [hPc] at hu
        rw [← (List.cons.inj hu).1, ← (List.cons.inj (List.cons.inj hu).2).1]
        exact ⟨l, rfl⟩
  have hmP : m = P2 ++ R := by
    rw [hh2, hP2] at hu
    exact (List.cons.inj (List.cons.inj hu).2).2
  have hRnc : R = [] ∨ ∃ c l, R = c :: l ∧ zNc c = false := hRsg.imp id (fun ⟨c, l, e, h⟩ => ⟨c, l, e, by
    cases q : zNc c with
    | false => rfl
    | true => rw [zNc_sg q] at h; cases h⟩)
  have hltw : zTw zNc m = zTw zNc P2 := by rw [hmP]; exact tw_pre hRnc
  have htwl := tw_le zNc P2
  have hP2l : P.length = P2.length + 2 := by rw [hP2, List.length_cons, List.length_cons]
  have hsite : m.take (zTw zNc m) = P2.take (zTw zNc P2) := by rw [hltw, hmP, List.take_append_of_le_length htwl]
  have hP2all : P2.all zPg = true := by
    rw [hP2, List.all_cons, List.all_cons] at hPall
    exact (Bool.and_eq_true_iff.mp (Bool.and_eq_true_iff.mp hPall).2).2
  have hz3 : zHead P B = if zNm (P2.take (zTw zNc P2)) = true then (match P2.drop (zTw zNc P2) with
      | [] => some (P2.take (zTw zNc P2), [[]])
      | c :: l => if c = 47 then (zPath [] l).map (fun p => (P2.take (zTw zNc P2), p)) else none) else none := by
    unfold zHead
    rw [if_pos (by rw [hP2]; rfl), hP2]
    rfl
  have hPne : P ≠ [] := by rw [hP2]; simp
  rcases zNr_tw (m := m) with ⟨k1, k2⟩ | ⟨k1, k2, k3, k4⟩
  · rw [k1, Nat.add_zero]
    refine sMo_refer_65 (fun z => absurd (by rw [nI_add]) z) (fun _ => sMo_refer_75 rfl ⟨_, rfl, fun _ => by decide, (fun A hA => ?_), F0⟩)
    rw [hsite] at k2
    rw [hzn (by rw [hz3, k2]; rfl)] at hA
    cases hA
  · rw [k1]
    rw [hsite] at k4
    rw [k4, if_pos rfl] at hz3
    rw [k1] at k2 k3
    generalize hle : zTw zNc m = ℓ at hltw k1 k2 k3 hsite
    rw [← hltw] at hz3 htwl hsite k4
    have hsl8 : (P2.take ℓ).length = ℓ := by rw [List.length_take]; omega
    have hslo : zLo ([47, 47] ++ P2.take ℓ) := zLo_app zLo_47 (fun c hc => hmlo c (by rw [hmP]; exact List.mem_append_left _ (List.mem_of_mem_take hc)))
    have lS : ([47, 47] ++ P2.take ℓ).length = 2 + ℓ := by rw [List.length_append, hsl8]; rfl
    have gS : ∀ j, j < 2 + ℓ → t.getD (fr + j) 0 = ([47, 47] ++ P2.take ℓ).getD j 0 := fun j hj => by
      rw [← gu j (by omega), hh2, hmP]
      have e1 : 47 :: 47 :: (P2 ++ R) = ([47, 47] ++ P2.take ℓ) ++ (P2.drop ℓ ++ R) := by
        conv => lhs; rw [← List.take_append_drop ℓ P2]
        simp only [List.append_assoc]
        rfl
      rw [e1, getD_app_lo (by rw [lS]; exact hj)]
    have hslY : zSli t (fr + 2 + ℓ) to = P2.drop ℓ ++ R := by
      rw [show fr + 2 + ℓ = fr + (2 + ℓ) by omega, ← sli_drop, hh2, hmP, show 2 + ℓ = ℓ + 2 by omega, List.drop_succ_cons, List.drop_succ_cons, List.drop_append_of_le_length htwl]
    have hYl : (P2.drop ℓ).length = P2.length - ℓ := List.length_drop
    refine sMo_refer_65 (fun _ => ?_) (fun z => by rw [nI_add] at z; exact absurd ((nI_eq (by omega) (by omega)).mp z) (by omega))
    refine sMo_refer_77 ?_
    -- behind the site
    have aft : ∀ (μ2 : zMm) (o7 : Option Value), mFm [] [] [0] μ1 μ2 → μ2.2 8 = μ1.2 8 → mPw μ2 0 ([47, 47] ++ P2.take ℓ) → mW G d ad M_Mo_refer 102 [some (.ref (ad 50)), some (.ref (ad 2)), some (.int (nI fr)), some (.int (nI to)), some (.int (nI r)), some (.int (nI 1)), some (.int (nI (fr + 2 + ℓ))), o7] [] μ2 (mPi fun q μ' => zRp μ (zSli t fr to) B q μ') := by
      intro μ2 o7 hF2 f8 fp
      refine sMo_refer_102 ?_
      have F2 := F0.tr (up3 hF2)
      have F3 : mFm [12, 14, 15] [9, 10, 11] [0] μ (upd μ2.1 15 (nI (fr + 2 + ℓ)), μ2.2) := F2.pi (by decide)
      generalize hμ3 : (upd μ2.1 15 (nI (fr + 2 + ℓ)), μ2.2) = μ3 at F3
      have j15 : μ3.1 15 = nI (fr + 2 + ℓ) := by rw [← hμ3]; exact pu_s
      have j14 : μ3.1 14 = zB1 false := by
        rw [← hμ3]
        dsimp only
        rw [pk_un (by decide), hF2.1 14 List.not_mem_nil, i14]; decide
      have j12 : μ3.1 12 = nI 0 := by
        rw [← hμ3]
        dsimp only
        rw [pk_un (by decide), hF2.1 12 List.not_mem_nil, i12]
      have j2 : μ3.2 = μ2.2 := by rw [← hμ3]
      have S3 : mSgs μ3 [] := ⟨j12, (fun i hi => absurd hi (Nat.not_lt_zero _)), (fun i hi => absurd hi (Nat.not_lt_zero _)), (fun c hc => by cases hc)⟩
      have fp3 : mPw μ3 0 ([47, 47] ++ P2.take ℓ) := by
        unfold mPw
        rw [j2]; exact fp
      have j8 : μ3.2 8 0 = nI 0 := by rw [j2, f8]; exact i8
      have Re3 : mRe μ3 t [] (fr + 2 + ℓ) := ⟨tx F3, hlo, htl, S3, j15⟩
      -- no SEGMENT at all
      have none' : (P2.drop ℓ ++ R = [] ∨ ∃ c l, P2.drop ℓ ++ R = c :: l ∧ c ≠ 47) → (zRead (zSli t fr to) B = (zTail (P2.drop ℓ ++ R)).map (fun q => (P2.take ℓ, [[]], if true = false ∧ q.1 = [] then B.2.2.1 else q.1, q.2))) → mW G d ad M_Mo_refer 108 [some (.ref (ad 50)), some (.ref (ad 2)), some (.int (nI fr)), some (.int (nI to)), some (.int (nI r)), some (.int (nI 1)), some (.int (nI (fr + 2 + ℓ))), o7] [] μ3 (mPi fun q μ' => zRp μ (zSli t fr to) B q μ') := by
        intro hrest hz
        refine sMo_refer_108 (by omega) (Nat.le_of_ble_eq_true rfl) (mc_segments (xs := []) hC (by omega) hto hrest (fun z => absurd rfl z) Re3 (by omega) (by simp only [List.length_nil]; omega) (by simp only [List.flatten_nil, List.length_nil]; omega) (by rw [hslY]; rfl) (fun x hx => by cases hx) j14) ?_
        rintro q μ4 ⟨-, n2, n3⟩
        obtain ⟨rfl, n4, n5⟩ := n2 (fun x hx => by cases hx)
        have n4' : mRe μ4 t [] (fr + 2 + ℓ) := n4
        refine sMo_refer_114 (fun _ => ?_) (fun z => absurd z (by decide))
        refine sMo_refer_119 (fun z => absurd n4'.2.2.2.2.symm z) (fun _ => ?_)
        refine sMo_refer_128 (by omega) (Nat.le_of_ble_eq_true rfl) (mc_segment (x := []) hC mk_2 (by decide) n4'.2.2.2.1 (fun j hj => absurd hj (Nat.not_lt_zero _)) (fun c hc => by cases hc) (by rw [ml_2]; simp only [List.length_nil]; omega) (by simp only [List.length_nil]; omega) (by simp only [List.flatten_nil, List.length_nil]; omega)) ?_
        rintro μ5 ⟨g1, g2, g3⟩
        have hra4 := n3.2.2 0 List.not_mem_nil
        have hra5 := g3.2.2 0 List.not_mem_nil
        have := endp μ5 (some (.int (nI (fr + 2 + ℓ)))) o7 (P2.take ℓ) [[]] false (fr + 2 + ℓ) true g1 g2 ((fp3.ra hra4).ra hra5) (by omega) (hra5.2.1.trans (hra4.2.1.trans j8)) (fun x hx => by rw [List.mem_singleton.mp hx]; exact Nat.zero_le _) ((g3.1 15 (by decide)).trans n4'.2.2.2.2) (by omega) (by decide) (by decide) ((F3.tr (up1 n3)).tr (up2 g3)) (by
          rw [hslY]
          exact hz) 135 (Or.inl rfl)
        rw [zB1_t] at this
        exact this
      cases hY : P2.drop ℓ with
      | nil =>
        rw [hY] at hz3 none'
        refine none' (by rw [List.nil_append]; exact hR47) ?_
        rw [List.nil_append]
        exact hzs hz3 ⟨(fun z => by cases z), fun z => absurd z hPne⟩
      | cons c Y =>
        rw [hY] at hz3 none' hslY hYl
        have hcY : ((c :: Y).all zPg) = true := by
          rw [← hY]
          exact List.all_eq_true.mpr (fun a ha => List.all_eq_true.mp hP2all a (List.mem_of_mem_drop ha))
        rw [List.all_cons] at hcY
        have hcY' := Bool.and_eq_true_iff.mp hcY
        rw [List.length_cons] at hYl
        have hz4 : zHead P B = if c = 47 then (zPath [] Y).map (fun p => (P2.take ℓ, p)) else none := hz3
        by_cases hc47 : c = 47
        · rw [if_pos hc47, zPath_eq] at hz4
          have hspl := spl_le (t := Y)
          have hfx : zFlat (zSpl 47 Y) = c :: Y := by rw [spl_flat, hc47]
          refine sMo_refer_108 (by omega) (Nat.le_of_ble_eq_true rfl) (mc_segments hC (by omega) hto hR47 (fun _ => hRsg) Re3 (by omega) (by simp only [List.length_nil]; omega) (by simp only [List.flatten_nil, List.length_nil]; omega) (by rw [hfx]; exact hslY) (spl_pg hcY'.2) j14) ?_
          rintro q μ4 ⟨n1, n2, n3⟩
          by_cases hall : ∀ y ∈ zSpl 47 Y, y.length ≤ 12
          · obtain ⟨rfl, n4, n5⟩ := n2 hall
            refine sMo_refer_114 (fun _ => ?_) (fun z => absurd z (by decide))
            have hall' : (zSpl 47 Y).all (fun y => Nat.ble y.length 12) = true := List.all_eq_true.mpr (fun y hy => Nat.ble_eq_true_of_le (hall y hy))
            have htk := zTk_fold (s := []) (w := false) (spl_ne (c := 47) (x := Y))
            have hra6 := n3.2.2 0 List.not_mem_nil
            have hfl2 := fold_len (xs := zSpl 47 Y) (s := [])
            simp only [List.length_nil, List.flatten_nil] at hfl2
            have hfxl : (zFlat (zSpl 47 Y)).length = Y.length + 1 := by rw [hfx, List.length_cons]
            have n15 := n4.2.2.2.2
            refine sMo_refer_119 (fun _ => ?_) (fun z => by rw [n15] at z; exact absurd ((nI_eq (by omega) (by omega)).mp z) (by omega))
            have := endp μ4 (some (.int (nI (fr + 2 + ℓ)))) o7 (P2.take ℓ) ((zSpl 47 Y).foldl zSt []) (zLw false (zSpl 47 Y)) (fr + 2 + ℓ + (zFlat (zSpl 47 Y)).length) true n4.2.2.2.1 n5 (fp3.ra hra6) (by omega) (hra6.2.1.trans j8) (fun y hy => ?_) n15 (by rw [hfxl]; omega) (by omega) (by omega) (F3.tr (up1 n3)) ?_ 135 (Or.inl rfl)
            · rw [zB1_t] at this; exact this
            · rcases fold_mem hy with hy | hy
              · cases hy
              · exact hall y hy
            · rw [htk, show fr + 2 + ℓ + (zFlat (zSpl 47 Y)).length = fr + P.length by rw [hfxl]; omega, sdrop hu rfl]
              by_cases h6 : (zTk [] (zSpl 47 Y)).length ≤ 6
              · rw [if_pos h6]
                refine hzs ?_ ⟨(fun z => by cases z), fun z => absurd z hPne⟩
                rw [hz4, if_pos]
                · rfl
                · unfold zPok
                  rw [hcY'.2, hall', Nat.ble_eq_true_of_le h6]; rfl
              · rw [if_neg h6]
                apply hzn
                rw [hz4, if_neg]
                · rfl
                · unfold zPok
                  intro z
                  exact h6 (Nat.le_of_ble_eq_true (Bool.and_eq_true_iff.mp z).2)
          · have := n1 hall
            subst this
            refine sMo_refer_114 (fun z => absurd rfl z) (fun _ => sMo_refer_117 rfl ⟨_, rfl, fun _ => by decide, (fun A hA => ?_), F3.tr (up1 n3)⟩)
            rw [hzn (by
              rw [hz4, if_neg]
              · rfl
              · unfold zPok
                intro z
                exact hall (fun y hy => Nat.le_of_ble_eq_true (List.all_eq_true.mp (Bool.and_eq_true_iff.mp (Bool.and_eq_true_iff.mp z).1).2 y hy)))] at hA
            cases hA
        · rw [if_neg hc47] at hz4
          refine none' (Or.inr ⟨c, Y ++ R, rfl, hc47⟩) ?_
          have hcp := zPg_iff.mp hcY'.1
          rw [hzn hz4]
          show none = (zTail (c :: (Y ++ R))).map _
          rw [zTail_bad (by omega) (by omega)]
          rfl
    have main : ∀ n j (μ2 : zMm), j + n = 2 + ℓ → mFm [] [] [0] μ1 μ2 → μ2.2 8 = μ1.2 8 → mPw μ2 0 (([47, 47] ++ P2.take ℓ).take j) → mW G d ad M_Mo_refer 80 [some (.ref (ad 50)), some (.ref (ad 2)), some (.int (nI fr)), some (.int (nI to)), some (.int (nI r)), some (.int (nI 1)), some (.int (nI (fr + 2 + ℓ))), some (.int (nI (fr + j)))] [] μ2 (mPi fun q μ' => zRp μ (zSli t fr to) B q μ') := by
      intro n
      induction n with
      | zero =>
        intro j μ2 hj hF2 f8 fp
        rw [List.take_of_length_le (show ([47, 47] ++ P2.take ℓ).length ≤ j by rw [lS]; omega)] at fp
        exact sMo_refer_80 (fun _ => aft μ2 _ hF2 f8 fp) (fun z => absurd (nI_le (by omega) (by omega)) z)
      | succ n ih =>
        intro j μ2 hj hF2 f8 fp
        have T2 := tx (F0.tr (up3 hF2))
        refine sMo_refer_80 (fun z => absurd z (nI_ge (by omega) (by omega))) (fun _ => ?_)
        refine sMo_refer_87 mk_2 (i1 := fr + j) rfl (by rw [ml_2]; omega) (by omega) (Nat.le_of_ble_eq_true rfl) (by rw [at' T2 _ (by omega), gS j (by omega)]; exact mc_put hC (by decide) fp (by rw [List.length_take]; omega) (hslo.at j)) ?_
        rintro μ3 ⟨g1, g2, g3⟩
        refine sMo_refer_96 ?_
        rw [nI_add]
        refine ih (j + 1) μ3 (by omega) (hF2.tr g2) (g3.trans f8) ?_
        rw [take_s (by rw [lS]; omega)]
        exact g1
    exact main (2 + ℓ) 0 μ1 (by omega) mFm.rf rfl (by rw [List.take_zero]; exact W0)
end MF
