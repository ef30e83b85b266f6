theorem zWf_dot {A : zA} (h : zWf A) : ∀ x ∈ A.2.1, zDot x = false := fun x hx => zSok_dot (h.2.2.2.1 x hx)
theorem zLo_all {p : Nat → Bool} (hp : ∀ c, p c = true → c < 128) {x : List Nat} (h : x.all p = true) : zLo x := fun c hc => hp c (List.all_eq_true.mp h c hc)
theorem zSg_lo : ∀ c, zSg c = true → c < 128 := fun c h => by have := zSg_iff.mp h; omega
theorem zNc_lo : ∀ c, zNc c = true → c < 128 := fun c h => by have := zNc_iff.mp h; omega
theorem zQc_lo : ∀ c, zQc c = true → c < 128 := fun c h => by have := zQc_iff.mp h; omega
theorem zOkc_lo : ∀ c, zOkc c = true → c < 128 := fun c h => by have := zOkc_iff.mp h; omega
theorem zFlat_lo {s : List (List Nat)} (h : ∀ x ∈ s, zLo x) : zLo (zFlat s) := fun c hc => by
  rcases zFlat_mem hc with rfl | ⟨x, hx, hc⟩
  · decide
  · exact h x hx c hc
theorem zLo_47 : zLo [47, 47] := fun c hc => by
  rcases List.mem_cons.mp hc with rfl | hc
  · decide
  · rw [List.mem_singleton.mp hc]; decide
theorem zWf.lo {A : zA} (h : zWf A) : zLo (zPl A) := by
  unfold zPl
  refine zLo_app (zLo_app (zLo_app zLo_47 (zLo_all zNc_lo (zNm_all h.1).2.2)) (zFlat_lo (fun x hx => zLo_all zSg_lo (h.2.2.2.1 x hx).2.1))) ?_
  rcases h.2.2.2.2.1 with e | ⟨q, e, _, e2⟩
  · rw [e]; intro c hc; cases hc
  · rw [e]
    intro c hc
    rcases List.mem_cons.mp hc with rfl | hc
    · decide
    · exact zQc_lo c (List.all_eq_true.mp e2 c hc)
section ME
variable {G : zG} {d : Nat} {ad : Nat → Nat} {μ : zMm} {c k a to p : Nat} {t x y rest : List Nat} {A B : zA} {s : List (List Nat)}
/-- the base's SEGMENTS, all or all but the last -/
theorem mc_baseSegments (hC : zCs G) (hd : 2 ≤ d) {r : Nat} (hr : r < 66) (hP : mPw μ r (zPl B)) (hw : zWf B) (hS : mSgs μ []) (h14 : μ.1 14 = nI 0) (all : Bool) : mC G d ad M_Mo_baseSegments [.ref (ad 50), .int (nI r), .int (zB1 all)] μ (mPv fun μ' => mSgs μ' (if all = true then B.2.1 else B.2.1.dropLast) ∧ μ'.1 14 = nI 0 ∧ mFm [12, 14] [9, 10, 11] [] μ μ') := by
  have hpl := hw.pl
  have hdot := zWf_dot hw
  have hfl := flat_len (s := B.2.1)
  have hflw := hw.fl
  have hl6 := hw.2.2.1
  have e0 : zPl B = ([47, 47] ++ B.1) ++ (zFlat B.2.1 ++ B.2.2.1) := by unfold zPl; rw [List.append_assoc]
  have l0 : ([47, 47] ++ B.1).length = 2 + B.1.length := by rw [List.length_append]; rfl
  have lp : (zPl B).length = 2 + B.1.length + (zFlat B.2.1).length + B.2.2.1.length := by rw [e0, List.length_append, l0, List.length_append]; omega
  -- bytes of the path
  have gp : ∀ j, j < (zFlat B.2.1).length → (zPl B).getD (2 + B.1.length + j) 0 = (zFlat B.2.1).getD j 0 := fun j hj => by
    rw [e0, getD_app_hi (by rw [l0]; omega), l0, show 2 + B.1.length + j - (2 + B.1.length) = j by omega, getD_app_lo hj]
  have hR : ∀ {μ1 : zMm}, mFm [12, 14] [9, 10, 11] [] μ μ1 → mPw μ1 r (zPl B) := fun f => hP.ra (f.2.2 r List.not_mem_nil)
  refine mC_in [some (.ref (ad 50)), some (.int (nI r)), some (.int (zB1 all)), none, none, none] pn_Mo_baseSegments hC.1 rfl (Nat.le_of_ble_eq_true rfl) rfl ?_
  refine sMo_baseSegments_0 (by omega) (Nat.le_of_ble_eq_true rfl) (mc_siteEnd hC hr hP hw) ?_
  rintro q μ1 ⟨rfl, rfl⟩
  refine sMo_baseSegments_5 (by omega) (Nat.le_of_ble_eq_true rfl) (mc_queryAt hC hr hP hw) ?_
  rintro q μ1 ⟨rfl, rfl⟩
  refine sMo_baseSegments_11 ?_
  have main : ∀ (ys xs : List (List Nat)) (μ2 : zMm) (o5 : Option Value), xs ++ ys = B.2.1 → mSgs μ2 (if all = true then xs else xs.take (B.2.1.length - 1)) → μ2.1 14 = nI 0 → mFm [12, 14] [9, 10, 11] [] μ1 μ2 → mW G d ad M_Mo_baseSegments 13 [some (.ref (ad 50)), some (.int (nI r)), some (.int (zB1 all)), some (.int (nI (2 + B.1.length + (zFlat xs).length))), some (.int (nI (2 + B.1.length + (zFlat B.2.1).length))), o5] [] μ2 (mPv fun μ' => mSgs μ' (if all = true then B.2.1 else B.2.1.dropLast) ∧ μ'.1 14 = nI 0 ∧ mFm [12, 14] [9, 10, 11] [] μ1 μ') := by
    intro ys
    induction ys with
    | nil =>
      intro xs μ2 o5 hxy hS2 h142 hF
      rw [List.append_nil] at hxy
      subst hxy
      refine sMo_baseSegments_13 (fun _ => ?_) (fun z => absurd (nI_le (by omega) (by omega)) z)
      refine sMo_baseSegments_95 ⟨rfl, ?_, h142, hF⟩
      rw [← List.dropLast_eq_take] at hS2
      exact hS2
    | cons x ys ih =>
      intro xs μ2 o5 hxy hS2 h142 hF
      have hxm : x ∈ B.2.1 := by rw [← hxy]; exact List.mem_append_right _ List.mem_cons_self
      have hxw := hw.2.2.2.1 x hxm
      have hfe : zFlat B.2.1 = zFlat xs ++ (47 :: (x ++ zFlat ys)) := by
        rw [← hxy]
        unfold zFlat
        rw [List.flatMap_append, List.flatMap_cons]
        rfl
      have hfel : (zFlat B.2.1).length = (zFlat xs).length + 1 + x.length + (zFlat ys).length := by rw [hfe, List.length_append, List.length_cons, List.length_append]; omega
      have hlx : xs.length + 1 + ys.length = B.2.1.length := by rw [← hxy, List.length_append, List.length_cons]; omega
      have hPw := hR hF
      have gx : ∀ j, j < x.length → (zPl B).getD (2 + B.1.length + (zFlat xs).length + 1 + j) 0 = x.getD j 0 := fun j hj => by
        rw [show 2 + B.1.length + (zFlat xs).length + 1 + j = 2 + B.1.length + ((zFlat xs).length + 1 + j) by omega, gp _ (by omega), hfe, getD_app_hi (by omega), show (zFlat xs).length + 1 + j - (zFlat xs).length = j + 1 by omega, List.getD_cons_succ, getD_app_lo hj]
      refine sMo_baseSegments_13 (fun z => absurd z (nI_ge (by omega) (by omega))) (fun _ => ?_)
      refine sMo_baseSegments_19 ?_
      rw [nI_add]
      -- the segment's end
      have fin : mW G d ad M_Mo_baseSegments 55 [some (.ref (ad 50)), some (.int (nI r)), some (.int (zB1 all)), some (.int (nI (2 + B.1.length + (zFlat xs).length))), some (.int (nI (2 + B.1.length + (zFlat B.2.1).length))), some (.int (nI (2 + B.1.length + (zFlat xs).length + 1 + x.length)))] [] μ2 (mPv fun μ' => mSgs μ' (if all = true then B.2.1 else B.2.1.dropLast) ∧ μ'.1 14 = nI 0 ∧ mFm [12, 14] [9, 10, 11] [] μ1 μ') := by
        have e1 : zFlat (xs ++ [x]) = zFlat xs ++ (47 :: x) := zFlat_app
        have hl1 : 2 + B.1.length + (zFlat (xs ++ [x])).length = 2 + B.1.length + (zFlat xs).length + 1 + x.length := by rw [e1, List.length_append, List.length_cons]; omega
        have hxy' : (xs ++ [x]) ++ ys = B.2.1 := by rw [List.append_assoc]; exact hxy
        -- it comes
        have take : (all = true ∨ ys ≠ []) → mW G d ad M_Mo_baseSegments 66 [some (.ref (ad 50)), some (.int (nI r)), some (.int (zB1 all)), some (.int (nI (2 + B.1.length + (zFlat xs).length))), some (.int (nI (2 + B.1.length + (zFlat B.2.1).length))), some (.int (nI (2 + B.1.length + (zFlat xs).length + 1 + x.length)))] [] μ2 (mPv fun μ' => mSgs μ' (if all = true then B.2.1 else B.2.1.dropLast) ∧ μ'.1 14 = nI 0 ∧ mFm [12, 14] [9, 10, 11] [] μ1 μ') := by
          intro hcase
          have ea : (if all = true then xs else xs.take (B.2.1.length - 1)) = xs := by
            split
            · rfl
            · exact List.take_of_length_le (by omega)
          rw [ea] at hS2
          have hxf : xs.flatten.length ≤ 78 := by have := flat_len (s := xs); omega
          have en : nI (2 + B.1.length + (zFlat xs).length + 1 + x.length) - nI (2 + B.1.length + (zFlat xs).length) - nI 1 = nI x.length := by
            rw [pk_sub (by omega), pk_sub (by omega)]; congr 1; omega
          have eo : nI r * nI 150 + nI (2 + B.1.length + (zFlat xs).length) + nI 1 = nI (r * 150 + (2 + B.1.length + (zFlat xs).length) + 1) := by rw [pk_mul, nI_add, nI_add]
          have hxb : mN (μ2.2 6) (r * 150 + (2 + B.1.length + (zFlat xs).length) + 1) x := fun j hj => by
            have := hPw.2.1 (2 + B.1.length + (zFlat xs).length + 1 + j) (by omega)
            rw [gx j hj] at this
            rw [show r * 150 + (2 + B.1.length + (zFlat xs).length) + 1 + j = r * 150 + (2 + B.1.length + (zFlat xs).length + 1 + j) by omega]
            exact this
          refine sMo_baseSegments_66 (by omega) (Nat.le_of_ble_eq_true rfl) (by rw [en, eo]; exact mc_segment hC mk_6 (by decide) hS2 hxb (zLo_all zSg_lo hxw.2.1) (by rw [ml_6]; omega) (by omega) (by have := hxw.1; omega)) ?_
          rintro μ3 ⟨g1, g2, g3⟩
          rw [zSt_no (hdot x hxm)] at g1
          rw [hdot x hxm] at g2
          refine sMo_baseSegments_89 ?_
          have := ih (xs ++ [x]) μ3 (some (.int (nI (2 + B.1.length + (zFlat xs).length + 1 + x.length)))) hxy' ?_ (g2.trans (by decide)) (hF.tr g3)
          · rw [hl1] at this; exact this
          · split
            · exact g1
            · next hna =>
              have hys : ys ≠ [] := hcase.resolve_left hna
              have : 1 ≤ ys.length := List.length_pos_iff.mpr hys
              rw [List.take_of_length_le (by rw [List.length_append]; simp only [List.length_cons, List.length_nil]; omega)]
              exact g1
        cases all with
        | true => exact sMo_baseSegments_55 (fun _ => take (Or.inl rfl)) (fun z => absurd z (by decide))
        | false =>
          refine sMo_baseSegments_55 (fun z => absurd (by decide) z) (fun _ => ?_)
          by_cases hys : ys = []
          · have hz : (zFlat ys).length = 0 := by rw [hys]; rfl
            refine sMo_baseSegments_59 (fun _ => ?_) (fun z => absurd (nI_le (by omega) (by omega)) z)
            refine sMo_baseSegments_89 ?_
            have := ih (xs ++ [x]) μ2 (some (.int (nI (2 + B.1.length + (zFlat xs).length + 1 + x.length)))) hxy' ?_ h142 hF
            · rw [hl1] at this; exact this
            · have hys0 : ys.length = 0 := by rw [hys]; rfl
              rw [if_neg (by decide)] at hS2 ⊢
              rw [List.take_append_of_le_length (by omega)]
              exact hS2
          · have hz : 1 ≤ (zFlat ys).length := by
              obtain ⟨l, e⟩ := zFlat_hd hys
              rw [e, List.length_cons]; omega
            exact sMo_baseSegments_59 (fun z => absurd z (nI_ge (by omega) (by omega))) (fun _ => take (Or.inr hys))
      have scan : ∀ n j, j + n = x.length → mW G d ad M_Mo_baseSegments 24 [some (.ref (ad 50)), some (.int (nI r)), some (.int (zB1 all)), some (.int (nI (2 + B.1.length + (zFlat xs).length))), some (.int (nI (2 + B.1.length + (zFlat B.2.1).length))), some (.int (nI (2 + B.1.length + (zFlat xs).length + 1 + j)))] [] μ2 (mPv fun μ' => mSgs μ' (if all = true then B.2.1 else B.2.1.dropLast) ∧ μ'.1 14 = nI 0 ∧ mFm [12, 14] [9, 10, 11] [] μ1 μ') := by
        intro n
        induction n with
        | zero =>
          intro j hj
          have hj' : j = x.length := (by omega)
          subst hj'
          by_cases hys : ys = []
          · have hz : (zFlat ys).length = 0 := by rw [hys]; rfl
            exact sMo_baseSegments_24 (fun _ => fin) (fun z => absurd (nI_le (by omega) (by omega)) z)
          · obtain ⟨l, e⟩ := zFlat_hd hys
            have hz : 1 ≤ (zFlat ys).length := by rw [e, List.length_cons]; omega
            refine sMo_baseSegments_24 (fun z => absurd z (nI_ge (by omega) (by omega))) (fun _ => ?_)
            refine sMo_baseSegments_31 (i1 := r * 150 + (2 + B.1.length + (zFlat xs).length + 1 + x.length)) (by rw [pk_mul, nI_add]) (by rw [ml_6]; omega) (fun _ => fin) (fun z => absurd ?_ z)
            rw [hPw.2.1 _ (by omega)]
            congr 1
            rw [show 2 + B.1.length + (zFlat xs).length + 1 + x.length = 2 + B.1.length + ((zFlat xs).length + 1 + x.length) by omega, gp _ (by omega), hfe, getD_app_hi (by omega), show (zFlat xs).length + 1 + x.length - (zFlat xs).length = x.length + 1 by omega, List.getD_cons_succ, getD_app_hi (Nat.le_refl _), Nat.sub_self, e]
            rfl
        | succ n ihn =>
          intro j hj
          refine sMo_baseSegments_24 (fun z => absurd z (nI_ge (by omega) (by omega))) (fun _ => ?_)
          refine sMo_baseSegments_31 (i1 := r * 150 + (2 + B.1.length + (zFlat xs).length + 1 + j)) (by rw [pk_mul, nI_add]) (by rw [ml_6]; omega) (fun z => ?_) (fun _ => ?_)
          · rw [hPw.2.1 _ (by omega), gx j (by omega)] at z
            have hlo := (zLo_all zSg_lo hxw.2.1).at j
            have hm : x.getD j 0 ∈ x := getD_mem (by omega)
            rw [(nI_eq (by omega) (by omega)).mp z] at hm
            exact absurd hm (hw.no x hxm)
          · refine sMo_baseSegments_49 ?_
            rw [nI_add]
            exact ihn (j + 1) (by omega)
      have := scan x.length 0 (by omega)
      rw [Nat.add_zero] at this
      exact this
  have := main B.2.1 [] μ1 none rfl (by
    split
    · exact hS
    · rw [List.take_nil]; exact hS) h14 mFm.rf
  exact this
/-- the rest behind the path: QUERY and MARK -/
def zQp (μ : zMm) (R pl bq : List Nat) (path : Bool) (r : Int32) (μ' : zMm) : Prop := (zTail R = none → r = 0) ∧ (∀ q, zTail R = some q → r = 1 ∧ mPw μ' 0 (pl ++ (if path = false ∧ q.1 = [] then bq else q.1)) ∧ mMk μ' 0 (q.2.drop 1)) ∧ mFm [15] [] [0] μ μ'
theorem zNm_nr {m : List Nat} : zNm m = true ↔ m ≠ [] ∧ zNr m = m.length := by
  rw [zNm_iff]
  cases m with
  | nil => simp
  | cons c l =>
    rw [zNk_cons]
    have ht := tw_le zNc l
    show _ ↔ _ ∧ (if zSm c = true then (if 1 + zTw zNc l ≤ 8 then 1 + zTw zNc l else 0) else 0) = _
    rw [List.length_cons]
    by_cases e : zSm c = true
    · rw [if_pos e, if_pos e]
      split <;> constructor <;> intro h <;> refine ⟨by simp, ?_⟩ <;> omega
    · rw [if_neg e, if_neg e]
      constructor <;> intro h <;> refine ⟨by simp, ?_⟩ <;> omega
theorem sli_hd {t : List Nat} {a b : Nat} (h : a < b) (hb : b ≤ t.length) : zSli t a b = t.getD a 0 :: zSli t (a + 1) b := by
  have hl := sli_len (t := t) (a := a) hb
  cases e : zSli t a b with
  | nil => rw [e] at hl; simp at hl; omega
  | cons c l =>
    have h0 := sli_get (t := t) (a := a) (b := b) (j := 0) (by omega)
    rw [e, Nat.add_zero] at h0
    have h1 := sli_drop (t := t) (a := a) (b := b) (j := 1)
    rw [e] at h1
    rw [← h0, ← h1]
    rfl
theorem sli_nil {t : List Nat} {a b : Nat} (h : b ≤ a) : zSli t a b = [] := by unfold zSli; rw [show b - a = 0 by omega]; rfl
theorem mc_queryM (hC : zCs G) (hd : 4 ≤ d) {pl : List Nat} {r : Nat} (ht : mN (μ.2 2) 0 t) (hlo : zLo t) (htl : t.length ≤ 2000) (h15 : μ.1 15 = nI p) (hto : to ≤ t.length) (hp : p ≤ to) (hpl : mPw μ 0 pl) (hpl2 : pl.length ≤ 88) (h8 : μ.2 8 0 = nI 0) (hr0 : r ≠ 0) (hr : r < 66) (hB : mPw μ r (zPl B)) (hw : zWf B) (path : Bool) : mC G d ad M_Mo_query [.ref (ad 50), .ref (ad 2), .int (nI to), .int (nI r), .int (zB1 path)] μ (mPi fun q μ' => zQp μ (zSli t p to) pl B.2.2.1 path q μ') := by
  have at' : ∀ {μ1 : zMm}, mN (μ1.2 2) 0 t → ∀ i, i < t.length → μ1.2 2 i = nI (t.getD i 0) := fun h i hi => by have := h i hi; rw [Nat.zero_add] at this; exact this
  have tx : ∀ {μ1 : zMm}, mFm [15] [] [0] μ μ1 → mN (μ1.2 2) 0 t := fun f => by
    rw [f.2.1 2 List.not_mem_nil (by decide) (by decide) (by decide)]
    exact ht
  have hbq : B.2.2.1.length ≤ 41 := by
    rcases hw.2.2.2.2.1 with e | ⟨q, e, e2, _⟩
    · rw [e]; exact Nat.zero_le _
    · rw [e, List.length_cons]; omega
  refine mC_in [some (.ref (ad 50)), some (.ref (ad 2)), some (.int (nI to)), some (.int (nI r)), some (.int (zB1 path)), none, none] pn_Mo_query hC.1 rfl (Nat.le_of_ble_eq_true rfl) rfl ?_
  have ret1 : ∀ (μ1 : zMm) (o5 o6 : Option Value) (q : List Nat × List Nat), μ1.1 15 = nI to → zTail (zSli t p to) = some q → mPw μ1 0 (pl ++ (if path = false ∧ q.1 = [] then B.2.2.1 else q.1)) → mMk μ1 0 (q.2.drop 1) → mFm [15] [] [0] μ μ1 → mW G d ad M_Mo_query 257 [some (.ref (ad 50)), some (.ref (ad 2)), some (.int (nI to)), some (.int (nI r)), some (.int (zB1 path)), o5, o6] [] μ1 (mPi fun q μ' => zQp μ (zSli t p to) pl B.2.2.1 path q μ') := by
    intro μ1 o5 o6 q e15 hz h1 h2 hF
    refine sMo_query_257 (fun z => absurd e15 z) (fun _ => sMo_query_265 rfl ⟨_, rfl, (fun w => by rw [hz] at w; cases w), (fun q' hq' => ?_), hF⟩)
    rw [hz] at hq'
    cases hq'
    exact ⟨by decide, h1, h2⟩
  have ret0 : ∀ (μ1 : zMm) (o5 o6 : Option Value) (p2 : Nat), p2 < to → μ1.1 15 = nI p2 → zTail (zSli t p to) = none → mFm [15] [] [0] μ μ1 → mW G d ad M_Mo_query 257 [some (.ref (ad 50)), some (.ref (ad 2)), some (.int (nI to)), some (.int (nI r)), some (.int (zB1 path)), o5, o6] [] μ1 (mPi fun q μ' => zQp μ (zSli t p to) pl B.2.2.1 path q μ') := by
    intro μ1 o5 o6 p2 hp2 e15 hz hF
    refine sMo_query_257 (fun _ => sMo_query_269 rfl ⟨_, rfl, fun _ => by decide, (fun q' hq' => by rw [hz] at hq'; cases hq'), hF⟩) (fun z => ?_)
    rw [e15] at z
    exact absurd ((nI_eq (by omega) (by omega)).mp z) (by omega)
  -- behind the QUERY
  have tl : ∀ (μ1 : zMm) (o5 o6 : Option Value) (p2 : Nat) (q0 : List Nat), p2 ≤ to → μ1.1 15 = nI p2 → mPw μ1 0 (pl ++ (if path = false ∧ q0 = [] then B.2.2.1 else q0)) → μ1.2 8 0 = nI 0 → mFm [15] [] [0] μ μ1 → (zTail (zSli t p to) = match zSli t p2 to with
        | [] => some (q0, [])
        | c :: m => if (c = 35 && zNm m) = true then some (q0, 35 :: m) else none) → (to ≤ p2 → mW G d ad M_Mo_query 257 [some (.ref (ad 50)), some (.ref (ad 2)), some (.int (nI to)), some (.int (nI r)), some (.int (zB1 path)), o5, o6] [] μ1 (mPi fun q μ' => zQp μ (zSli t p to) pl B.2.2.1 path q μ')) ∧ (p2 < to → mW G d ad M_Mo_query 157 [some (.ref (ad 50)), some (.ref (ad 2)), some (.int (nI to)), some (.int (nI r)), some (.int (zB1 path)), o5, o6] [] μ1 (mPi fun q μ' => zQp μ (zSli t p to) pl B.2.2.1 path q μ')) := by
    intro μ1 o5 o6 p2 q0 hp2 e15 hpw e8 hF hz
    refine ⟨fun hle => ?_, fun hlt => ?_⟩
    · rw [sli_nil hle] at hz
      exact ret1 μ1 o5 o6 _ (by rw [e15]; congr 1; omega) hz hpw ⟨e8, (fun j hj => absurd hj (Nat.not_lt_zero _)), Nat.zero_le _, (fun c hc => by cases hc)⟩ hF
    · rw [sli_hd hlt hto] at hz
      have hzz : zTail (zSli t p to) = if (t.getD p2 0 = 35 && zNm (zSli t (p2 + 1) to)) = true then some (q0, 35 :: zSli t (p2 + 1) to) else none := hz
      have hc := hlo.at p2
      have htx := tx hF
      refine sMo_query_157 mk_2 (i1 := p2) e15 (by rw [ml_2]; omega) (fun z => ?_) (fun z => ?_)
      · rw [at' htx p2 (by omega)] at z
        rw [if_neg (by simp only [Bool.and_eq_true, decide_eq_true_eq]; intro w; exact z (by rw [w.1]))] at hzz
        exact ret0 μ1 o5 o6 p2 hlt e15 hzz hF
      · rw [at' htx p2 (by omega)] at z
        have h35 := (nI_eq (by omega) (by omega)).mp z
        have hml := sli_len (t := t) (a := p2 + 1) hto
        have hmlo : zLo (zSli t (p2 + 1) to) := sli_lo hlo
        refine sMo_query_168 (by omega) (Nat.le_of_ble_eq_true rfl) (by rw [e15, nI_add]; exact mc_nameEnd hC (by omega) mk_2 htx hlo (by rw [ml_2]; omega) (a := p2 + 1) (by omega) hto) ?_
        rintro q μ2 ⟨rfl, rfl⟩
        generalize hmm : zSli t (p2 + 1) to = m at hzz hml hmlo
        have hnle : zNr m ≤ m.length ∧ zNr m ≤ 8 := by
          cases m with
          | nil => exact ⟨Nat.le_refl _, Nat.zero_le _⟩
          | cons c l =>
            have := tw_le zNc l
            rw [List.length_cons]
            show (if zSm c = true then (if 1 + zTw zNc l ≤ 8 then 1 + zTw zNc l else 0) else 0) ≤ _ ∧ (if zSm c = true then (if 1 + zTw zNc l ≤ 8 then 1 + zTw zNc l else 0) else 0) ≤ _
            split
            · split <;> omega
            · omega
        by_cases hn0 : zNr m = 0
        · rw [hn0, Nat.add_zero]
          have hno : ¬ zNm m = true := fun w => by
            obtain ⟨w1, w2⟩ := zNm_nr.mp w
            rw [hn0] at w2
            exact w1 (List.length_eq_zero_iff.mp w2.symm)
          rw [if_neg (by simp only [Bool.and_eq_true]; intro w; exact hno w.2)] at hzz
          refine sMo_query_179 (fun z => absurd (by rw [e15, nI_add]) z) (fun _ => sMo_query_192 rfl ⟨_, rfl, fun _ => by decide, (fun q' hq' => by rw [hzz] at hq'; cases hq'), hF⟩)
        · refine sMo_query_179 (fun _ => ?_) (fun z => ?_)
          · have em : nI (p2 + 1 + zNr m) - μ2.1 15 - nI 1 = nI (zNr m) := by rw [e15, pk_sub (by omega), pk_sub (by omega)]; congr 1; omega
            refine sMo_query_194 (i := 0) rfl (by rw [ml_8]; omega) ?_
            rw [em]
            refine sMo_query_209 ?_
            have gm : ∀ j, j < m.length → t.getD (p2 + 1 + j) 0 = m.getD j 0 := fun j hj => by rw [← hmm, sli_get (by omega)]
            have main : ∀ n j (μ3 : zMm), j + n = zNr m → mFm [15] [] [0] μ μ3 → μ3.1 15 = nI p2 → μ3.2 7 = μ2.2 7 → μ3.2 8 0 = nI (zNr m) → (∀ i, i < 135 → μ3.2 6 i = μ2.2 6 i) → mN (μ3.2 6) (0 * 150 + 135) (m.take j) → mW G d ad M_Mo_query 212 [some (.ref (ad 50)), some (.ref (ad 2)), some (.int (nI to)), some (.int (nI r)), some (.int (zB1 path)), some (.int (nI (p2 + 1 + zNr m))), some (.int (nI j))] [] μ3 (mPi fun q μ' => zQp μ (zSli t p to) pl B.2.2.1 path q μ') := by
              intro n
              induction n with
              | zero =>
                intro j μ3 hj hF3 f15 f7 f8 f6 fm
                have hj' : j = zNr m := (by omega)
                subst hj'
                refine sMo_query_212 (i1 := 0) rfl (by rw [ml_8]; omega) (fun _ => ?_) (fun z => absurd (show μ3.2 8 0 ≤ nI (zNr m) by rw [f8]; exact nI_le (Nat.le_refl _) (by omega)) z)
                refine sMo_query_251 ?_
                have hF4 : mFm [15] [] [0] μ (upd μ3.1 15 (nI (p2 + 1 + zNr m)), μ3.2) := hF3.pi (by decide)
                have e15' : upd μ3.1 15 (nI (p2 + 1 + zNr m)) 15 = nI (p2 + 1 + zNr m) := pk_us
                have pw3 : mPw (upd μ3.1 15 (nI (p2 + 1 + zNr m)), μ3.2) 0 (pl ++ (if path = false ∧ q0 = [] then B.2.2.1 else q0)) := by
                  refine ⟨?_, fun i hi => ?_, hpw.2.2⟩
                  · show μ3.2 7 0 = _
                    rw [f7]; exact hpw.1
                  · show μ3.2 6 (0 * 150 + i) = _
                    have := hpw.2.2.1
                    rw [f6 _ (by omega)]; exact hpw.2.1 i hi
                by_cases hall : zNr m = m.length
                · have hnm : zNm m = true := zNm_nr.mpr ⟨fun w => hn0 (by rw [w]; rfl), hall⟩
                  rw [if_pos (by rw [h35, hnm]; rfl)] at hzz
                  refine ret1 _ _ _ _ ?_ hzz pw3 ⟨?_, ?_, ?_, ?_⟩ hF4
                  · dsimp only; rw [e15']; congr 1; omega
                  · show μ3.2 8 0 = nI m.length
                    rw [f8, hall]
                  · show mN (μ3.2 6) (0 * 150 + 135) m
                    rw [hall, List.take_of_length_le (Nat.le_refl _)] at fm
                    exact fm
                  · show m.length ≤ 8
                    omega
                  · exact hmlo
                · rw [if_neg (by simp only [Bool.and_eq_true]; intro w; exact hall (zNm_nr.mp w.2).2)] at hzz
                  exact ret0 _ _ _ (p2 + 1 + zNr m) (by omega) e15' hzz hF4
              | succ n ih =>
                intro j μ3 hj hF3 f15 f7 f8 f6 fm
                refine sMo_query_212 (i1 := 0) rfl (by rw [ml_8]; omega) (fun z => absurd (show nI (zNr m) ≤ nI j by rw [← f8]; exact z) (nI_ge (by omega) (by omega))) (fun _ => ?_)
                refine sMo_query_223 mk_2 (i1 := p2 + 1 + j) (by rw [f15, nI_add, nI_add]) (by rw [ml_2]; omega) (i := 135 + j) (nI_add _ _) (by rw [ml_6]; omega) ?_
                refine sMo_query_245 ?_
                rw [nI_add]
                have ev : μ3.2 2 (p2 + 1 + j) = nI (m.getD j 0) := by rw [at' (tx hF3) _ (by omega), gm j (by omega)]
                rw [ev, n8 (hmlo.at j)]
                refine ih (j + 1) _ (by omega) (hF3.p6 (r0 := 0) (j0 := 135 + j) mem1 (by omega) (by omega)) f15 ?_ ?_ (fun i hi => ?_) ?_
                · dsimp only
                  rw [updA_n (by decide)]; exact f7
                · dsimp only
                  rw [updA_n (by decide)]; exact f8
                · dsimp only
                  rw [updA_s, pk_un (by omega)]; exact f6 i hi
                · dsimp only
                  rw [updA_s, take_s (by omega), mN_app]
                  have hl : (m.take j).length = j := by rw [List.length_take]; omega
                  refine ⟨fun i hi => ?_, fun i hi => ?_⟩
                  · rw [hl] at hi
                    rw [pk_un (by omega)]; exact fm i (by rw [hl]; exact hi)
                  · simp only [List.length_cons, List.length_nil] at hi
                    rw [show i = 0 by omega, hl, Nat.add_zero, show 0 * 150 + 135 + j = 135 + j by omega, pk_us]; rfl
            refine main (zNr m) 0 _ (by omega) (hF.p8 mem1) e15 ?_ ?_ (fun i hi => ?_) (fun i hi => absurd hi (Nat.not_lt_zero _))
            · dsimp only
              rw [updA_n (by decide)]
            · dsimp only
              rw [updA_s, pk_us]
            · dsimp only
              rw [updA_n (by decide)]
          · rw [e15, nI_add] at z
            exact absurd ((nI_eq (by omega) (by omega)).mp z) (by omega)
  have no63 : (to ≤ p ∨ t.getD p 0 ≠ 63) → mW G d ad M_Mo_query 102 [some (.ref (ad 50)), some (.ref (ad 2)), some (.int (nI to)), some (.int (nI r)), some (.int (zB1 path)), none, none] [] μ (mPi fun q μ' => zQp μ (zSli t p to) pl B.2.2.1 path q μ') := by
    intro hcase
    have hq0 : zTq (zSli t p to) = [] := by
      by_cases hle : to ≤ p
      · rw [sli_nil hle]; rfl
      · rw [sli_hd (by omega) hto]
        exact if_neg (hcase.resolve_left hle)
    have hz : zTail (zSli t p to) = match zSli t p to with
        | [] => some ([], [])
        | c :: m => if (c = 35 && zNm m) = true then some ([], 35 :: m) else none := by
      unfold zTail
      rw [hq0]
      rfl
    cases path with
    | true =>
      have := tl μ none none p [] hp h15 (by rw [if_neg (fun w => by cases w.1), List.append_nil]; exact hpl) h8 mFm.rf hz
      refine sMo_query_102 (fun _ => ?_) (fun z => absurd z (by decide))
      exact sMo_query_149 (fun z => this.1 (by rw [h15] at z; exact (nI_leI (by omega) (by omega)).mp z)) (fun z => this.2 (Nat.not_le.mp (fun w => z (by rw [h15]; exact nI_le w (by omega)))))
    | false =>
      refine sMo_query_102 (fun z => absurd (by decide) z) (fun _ => ?_)
      refine sMo_query_107 (by omega) (Nat.le_of_ble_eq_true rfl) (mc_queryAt hC hr hB hw) ?_
      rintro q μ1 ⟨rfl, rfl⟩
      refine sMo_query_112 ?_
      have lp : (zPl B).length = 2 + B.1.length + (zFlat B.2.1).length + B.2.2.1.length := by unfold zPl; rw [List.length_append, List.length_append, List.length_append]; rfl
      have gq : ∀ j, j < B.2.2.1.length → (zPl B).getD (2 + B.1.length + (zFlat B.2.1).length + j) 0 = B.2.2.1.getD j 0 := fun j hj => by
        have l3 : ([47, 47] ++ B.1 ++ zFlat B.2.1).length = 2 + B.1.length + (zFlat B.2.1).length := by rw [List.length_append, List.length_append]; rfl
        unfold zPl
        rw [getD_app_hi (by rw [l3]; omega), l3]
        congr 1
        omega
      have hBlo : zLo B.2.2.1 := fun c hc => hw.lo c (List.mem_append_right _ hc)
      have hplB := hw.pl
      have main : ∀ n j (μ2 : zMm) (o6 : Option Value), j + n = B.2.2.1.length → mFm [] [] [0] μ1 μ2 → μ2.2 8 = μ1.2 8 → mPw μ2 0 (pl ++ B.2.2.1.take j) → mW G d ad M_Mo_query 114 [some (.ref (ad 50)), some (.ref (ad 2)), some (.int (nI to)), some (.int (nI r)), some (.int (zB1 false)), some (.int (nI (2 + B.1.length + (zFlat B.2.1).length + j))), o6] [] μ2 (mPi fun q μ' => zQp μ1 (zSli t p to) pl B.2.2.1 false q μ') := by
        intro n
        induction n with
        | zero =>
          intro j μ2 o6 hj hF2 f8 fp
          have hj' : j = B.2.2.1.length := (by omega)
          subst hj'
          rw [List.take_of_length_le (Nat.le_refl _)] at fp
          have hB2 := hB.ra (hF2.2.2 r (fun z => hr0 (List.mem_singleton.mp z)))
          refine sMo_query_114 (i1 := r) rfl (by rw [ml_7]; omega) (fun _ => ?_) (fun z => absurd (show μ2.2 7 r ≤ _ by rw [hB2.1]; exact nI_le (by omega) (by omega)) z)
          have h15' : μ2.1 15 = nI p := (hF2.1 15 List.not_mem_nil).trans h15
          have := tl μ2 (some (.int (nI (2 + B.1.length + (zFlat B.2.1).length + B.2.2.1.length)))) o6 p [] hp h15' (by rw [if_pos ⟨rfl, rfl⟩]; exact fp) (by rw [f8]; exact h8) (hF2.mono (fun _ z => by cases z) (fun _ z => z) (fun _ z => z)) hz
          exact sMo_query_149 (fun z => this.1 (by rw [h15'] at z; exact (nI_leI (by omega) (by omega)).mp z)) (fun z => this.2 (Nat.not_le.mp (fun w => z (by rw [h15']; exact nI_le w (by omega)))))
        | succ n ih =>
          intro j μ2 o6 hj hF2 f8 fp
          have hB2 := hB.ra (hF2.2.2 r (fun z => hr0 (List.mem_singleton.mp z)))
          refine sMo_query_114 (i1 := r) rfl (by rw [ml_7]; omega) (fun z => absurd (show nI (zPl B).length ≤ nI (2 + B.1.length + (zFlat B.2.1).length + j) by rw [← hB2.1]; exact z) (nI_ge (by omega) (by omega))) (fun _ => ?_)
          have ll : (pl ++ B.2.2.1.take j).length = pl.length + j := by rw [List.length_append, List.length_take]; omega
          refine sMo_query_125 (i1 := r * 150 + (2 + B.1.length + (zFlat B.2.1).length + j)) (by rw [pk_mul, nI_add]) (by rw [ml_6]; omega) (by omega) (Nat.le_of_ble_eq_true rfl) (by rw [hB2.2.1 _ (by omega), gq j (by omega)]; exact mc_put hC (by decide) fp (by rw [ll]; omega) (hBlo.at j)) ?_
          rintro μ3 ⟨g1, g2, g3⟩
          refine sMo_query_143 ?_
          rw [nI_add]
          refine ih (j + 1) μ3 o6 (by omega) (hF2.tr g2) (g3.trans f8) ?_
          rw [take_s (by omega), ← List.append_assoc]
          exact g1
      have := main B.2.2.1.length 0 μ1 none (by omega) mFm.rf rfl (by rw [List.take_zero, List.append_nil]; exact hpl)
      rw [Nat.add_zero] at this
      exact this
  by_cases hle : to ≤ p
  · exact sMo_query_0 (fun _ => no63 (Or.inl hle)) (fun z => absurd (show nI to ≤ μ.1 15 by rw [h15]; exact nI_le hle (by omega)) z)
  · refine sMo_query_0 (fun z => absurd (show nI to ≤ nI p by rw [← h15]; exact z) (nI_ge (by omega) (by omega))) (fun _ => ?_)
    have hcl := hlo.at p
    refine sMo_query_8 mk_2 (i1 := p) h15 (by rw [ml_2]; omega) (fun z => no63 (Or.inr (fun w => z (by rw [at' ht p (by omega), w])))) (fun z => ?_)
    rw [at' ht p (by omega)] at z
    have h63 := (nI_eq (by omega) (by omega)).mp z
    -- a QUERY
    have hsl : zSli t p to = 63 :: zSli t (p + 1) to := by rw [sli_hd (by omega) hto, h63]
    have hrl := sli_len (t := t) (a := p + 1) hto
    have hrlo : zLo (zSli t (p + 1) to) := sli_lo hlo
    have gr : ∀ j, j < to - (p + 1) → t.getD (p + 1 + j) 0 = (zSli t (p + 1) to).getD j 0 := fun j hj => by rw [sli_get hj]
    generalize hRR : zSli t (p + 1) to = R' at hsl hrl hrlo gr
    have htq : zTq (zSli t p to) = 63 :: R'.takeWhile zQc := by rw [hsl]; rfl
    have htw := tw_le zQc R'
    have htql : (zTq (zSli t p to)).length = 1 + zTw zQc R' := by rw [htq, List.length_cons]; exact Nat.add_comm _ _
    have hdrop : zSli t (p + 1 + zTw zQc R') to = R'.drop (zTw zQc R') := by rw [← sli_drop, hRR]
    have hzt : zTail (zSli t p to) = if 41 < 1 + zTw zQc R' then none else match R'.drop (zTw zQc R') with
        | [] => some (63 :: R'.takeWhile zQc, [])
        | c :: m => if (c = 35 && zNm m) = true then some (63 :: R'.takeWhile zQc, 35 :: m) else none := by
      unfold zTail
      rw [htql, htq, hsl, Nat.add_comm 1, List.drop_succ_cons]
      cases R'.drop (zTw zQc R') <;> rfl
    refine sMo_query_19 ?_
    rw [h15, nI_add]
    have after : ∀ o6, mW G d ad M_Mo_query 49 [some (.ref (ad 50)), some (.ref (ad 2)), some (.int (nI to)), some (.int (nI r)), some (.int (zB1 path)), some (.int (nI (p + 1 + zTw zQc R'))), o6] [] μ (mPi fun q μ' => zQp μ (zSli t p to) pl B.2.2.1 path q μ') := by
      intro o6
      have en : nI (p + 1 + zTw zQc R') - μ.1 15 - nI 1 = nI (zTw zQc R') := by rw [h15, pk_sub (by omega), pk_sub (by omega)]; congr 1; omega
      refine sMo_query_49 (fun z => ?_) (fun z => ?_)
      · rw [en] at z
        have h40 := (nI_leI (by omega) (by omega)).mp z
        rw [if_neg (by omega)] at hzt
        refine sMo_query_65 ?_
        rw [h15]
        have gq : ∀ j, j < 1 + zTw zQc R' → t.getD (p + j) 0 = (63 :: R'.takeWhile zQc).getD j 0 := fun j hj => by
          cases j with
          | zero => rw [Nat.add_zero, h63]; rfl
          | succ j =>
            rw [List.getD_cons_succ, show p + (j + 1) = p + 1 + j by omega, gr j (by omega)]
            have : R'.takeWhile zQc = R'.take (zTw zQc R') := by
              have := List.takeWhile_append_dropWhile (p := zQc) (l := R')
              conv => rhs; rw [← this]
              rw [show zTw zQc (R'.takeWhile zQc ++ R'.dropWhile zQc) = (R'.takeWhile zQc).length by rw [this]]
              exact List.take_left.symm
            rw [this, getD_take (by omega)]
        have hql : (63 :: R'.takeWhile zQc).length = 1 + zTw zQc R' := by rw [List.length_cons]; exact Nat.add_comm _ _
        have hqlo : zLo (63 :: R'.takeWhile zQc) := fun c hc => by
          rcases List.mem_cons.mp hc with rfl | hc
          · decide
          · exact hrlo c ((List.takeWhile_sublist _).subset hc)
        generalize hQQ : 63 :: R'.takeWhile zQc = Q0 at hzt gq hql hqlo
        have hQne : Q0 ≠ [] := by rw [← hQQ]; simp
        have main : ∀ n j (μ2 : zMm), j + n = 1 + zTw zQc R' → mFm [] [] [0] μ μ2 → μ2.2 8 = μ.2 8 → mPw μ2 0 (pl ++ Q0.take j) → mW G d ad M_Mo_query 71 [some (.ref (ad 50)), some (.ref (ad 2)), some (.int (nI to)), some (.int (nI r)), some (.int (zB1 path)), some (.int (nI (p + 1 + zTw zQc R'))), some (.int (nI (p + j)))] [] μ2 (mPi fun q μ' => zQp μ (zSli t p to) pl B.2.2.1 path q μ') := by
          intro n
          induction n with
          | zero =>
            intro j μ2 hj hF2 f8 fp
            rw [List.take_of_length_le (by omega)] at fp
            refine sMo_query_71 (fun _ => ?_) (fun z => absurd (nI_le (by omega) (by omega)) z)
            refine sMo_query_93 ?_
            have hF3 : mFm [15] [] [0] μ (upd μ2.1 15 (nI (p + 1 + zTw zQc R')), μ2.2) := (hF2.mono (I2 := [15]) (fun _ z => by cases z) (fun _ z => z) (fun _ z => z)).pi (by decide)
            have e15 : upd μ2.1 15 (nI (p + 1 + zTw zQc R')) 15 = nI (p + 1 + zTw zQc R') := pk_us
            have := tl (upd μ2.1 15 (nI (p + 1 + zTw zQc R')), μ2.2) (some (.int (nI (p + 1 + zTw zQc R')))) (some (.int (nI (p + j)))) (p + 1 + zTw zQc R') Q0 (by omega) e15 (by rw [if_neg (fun w => hQne w.2)]; exact fp) (by show μ2.2 8 0 = _; rw [f8]; exact h8) hF3 (by rw [hdrop]; exact hzt)
            exact sMo_query_99 (fun z => this.1 (by
              have z' : nI to ≤ upd μ2.1 15 (nI (p + 1 + zTw zQc R')) 15 := z
              rw [e15] at z'; exact (nI_leI (by omega) (by omega)).mp z')) (fun z => this.2 (Nat.not_le.mp (fun w => z (by show nI to ≤ upd μ2.1 15 (nI (p + 1 + zTw zQc R')) 15; rw [e15]; exact nI_le w (by omega)))))
          | succ n ih =>
            intro j μ2 hj hF2 f8 fp
            refine sMo_query_71 (fun z => absurd z (nI_ge (by omega) (by omega))) (fun _ => ?_)
            have ll : (pl ++ Q0.take j).length = pl.length + j := by rw [List.length_append, List.length_take]; omega
            have htx2 : mN (μ2.2 2) 0 t := by rw [hF2.2.1 2 List.not_mem_nil (by decide) (by decide) (by decide)]; exact ht
            refine sMo_query_78 mk_2 (i1 := p + j) rfl (by rw [ml_2]; omega) (by omega) (Nat.le_of_ble_eq_true rfl) (by rw [at' htx2 _ (by omega), gq j (by omega)]; exact mc_put hC (by decide) fp (by rw [ll]; omega) (hqlo.at j)) ?_
            rintro μ3 ⟨g1, g2, g3⟩
            refine sMo_query_87 ?_
            rw [nI_add]
            refine ih (j + 1) μ3 (by omega) (hF2.tr g2) (g3.trans f8) ?_
            rw [take_s (by omega), ← List.append_assoc]
            exact g1
        exact main (1 + zTw zQc R') 0 μ (by omega) mFm.rf rfl (by rw [List.take_zero, List.append_nil]; exact hpl)
      · rw [en] at z
        rw [if_pos (by have : 40 < zTw zQc R' := Nat.not_le.mp (fun w => z (nI_le w (by omega))); omega)] at hzt
        exact sMo_query_63 rfl ⟨_, rfl, fun _ => by decide, (fun q' hq' => by rw [hzt] at hq'; cases hq'), mFm.rf⟩
    have scan : ∀ n j o6, j + n = zTw zQc R' → mW G d ad M_Mo_query 27 [some (.ref (ad 50)), some (.ref (ad 2)), some (.int (nI to)), some (.int (nI r)), some (.int (zB1 path)), some (.int (nI (p + 1 + j))), o6] [] μ (mPi fun q μ' => zQp μ (zSli t p to) pl B.2.2.1 path q μ') := by
      intro n
      induction n with
      | zero =>
        intro j o6 hj
        have hj' : j = zTw zQc R' := (by omega)
        rw [hj']
        by_cases hend : to ≤ p + 1 + zTw zQc R'
        · exact sMo_query_27 (fun _ => after o6) (fun z => absurd (nI_le hend (by omega)) z)
        · refine sMo_query_27 (fun z => absurd z (nI_ge (by omega) (by omega))) (fun _ => ?_)
          have hf := tw_end zQc R' (by omega)
          refine sMo_query_33 mk_2 rfl (by rw [ml_2]; omega) (by omega) (Nat.le_of_ble_eq_true rfl) (by rw [at' ht _ (by omega), gr _ (by omega)]; exact mc_query hC (by omega) (hrlo.at _)) ?_
          rintro q μ1 ⟨rfl, rfl⟩
          rw [hf]
          exact sMo_query_40 (fun _ => after o6) (fun z => absurd (by decide) z)
      | succ n ih =>
        intro j o6 hj
        refine sMo_query_27 (fun z => absurd z (nI_ge (by omega) (by omega))) (fun _ => ?_)
        have hf := tw_at zQc R' j (by omega)
        refine sMo_query_33 mk_2 rfl (by rw [ml_2]; omega) (by omega) (Nat.le_of_ble_eq_true rfl) (by rw [at' ht _ (by omega), gr _ (by omega)]; exact mc_query hC (by omega) (hrlo.at _)) ?_
        rintro q μ1 ⟨rfl, rfl⟩
        rw [hf]
        refine sMo_query_40 (fun z => absurd z (by decide)) (fun _ => sMo_query_43 ?_)
        rw [nI_add]
        exact ih (j + 1) o6 (by omega)
    exact scan (zTw zQc R') 0 none (by omega)
end ME
