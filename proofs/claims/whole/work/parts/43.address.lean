theorem spl_cons {c : Nat} : ∀ {x r : List Nat}, c ∉ x → zSpl c (x ++ c :: r) = x :: zSpl c r := by
  intro x
  induction x with
  | nil =>
    intro r _
    show zSpl c (c :: r) = _
    rw [zSpl, if_pos rfl]
  | cons y l ih =>
    intro r h
    have h1 : y ≠ c := fun z => h (by rw [z]; exact List.mem_cons_self)
    have h2 := ih (r := r) (fun z => h (List.mem_cons_of_mem _ z))
    show zSpl c (y :: (l ++ c :: r)) = _
    rw [zSpl, if_neg h1, h2]
theorem spl_one {c : Nat} : ∀ {x : List Nat}, c ∉ x → zSpl c x = [x] := by
  intro x
  induction x with
  | nil => intro _; rfl
  | cons y l ih =>
    intro h
    have h1 : y ≠ c := fun z => h (by rw [z]; exact List.mem_cons_self)
    rw [zSpl, if_neg h1, ih (fun z => h (List.mem_cons_of_mem _ z))]
theorem spl_ne {c : Nat} {x : List Nat} : zSpl c x ≠ [] := by
  cases x with
  | nil => intro h; cases h
  | cons y l =>
    rw [zSpl]
    split
    · intro h; cases h
    · split <;> (intro h; cases h)
theorem zTk_two {s : List (List Nat)} {x : List Nat} {r : List (List Nat)} (h : r ≠ []) : zTk s (x :: r) = zTk (zSt s x) r := by
  cases r with
  | nil => exact absurd rfl h
  | cons y r => rfl
theorem zHo_pg (c : Nat) : zHo [47, 46, 45, 95] c = zPg c := by
  unfold zHo zPg zSg
  cases zSm c <;> cases zDg c <;> simp
  by_cases h1 : c = 47 <;> by_cases h2 : c = 46 <;> by_cases h3 : c = 45 <;> by_cases h4 : c = 95 <;> simp [h1, h2, h3, h4]
theorem zHo_qc (c : Nat) : zHo [46, 45, 95, 61, 38, 43] c = zQc c := by
  unfold zHo zQc zSg
  cases zSm c <;> cases zDg c <;> simp
  by_cases h1 : c = 61 <;> by_cases h2 : c = 46 <;> by_cases h3 : c = 45 <;> by_cases h4 : c = 95 <;> by_cases h5 : c = 38 <;> by_cases h6 : c = 43 <;> simp [h1, h2, h3, h4, h5, h6]
/-- is a PATH read? -/
def zPok (s : List (List Nat)) (t : List Nat) : Bool := t.all zPg && (zSpl 47 t).all (fun x => Nat.ble x.length 12) && Nat.ble (zTk s (zSpl 47 t)).length 6
theorem zPath_eq {s : List (List Nat)} {t : List Nat} : zPath s t = if zPok s t = true then some (zTk s (zSpl 47 t)) else none := rfl
theorem zSt_flat (s : List (List Nat)) (x : List Nat) : (zFlat (zSt s x)).length ≤ (zFlat s).length + x.length + 1 := by
  unfold zSt
  split
  · by_cases z : s = []
    · rw [z]; exact Nat.zero_le _
    · rw [zFlat_last z, List.length_append]; omega
  · split
    · omega
    · rw [zFlat_app, List.length_append, List.length_cons]; omega
theorem zMo.li {G : zG} {S : List Nat} {H H1 : Heap} {L L2 : List Nat} (h : zMo S H H1) (hL : zLi G H L) (h2 : ∀ q ∈ L2, q ∈ L ∨ (zFr G q ∧ q < H1.size)) : zLi G H1 L2 := fun q z => (h2 q z).elim (fun w => ⟨(hL q w).1, Nat.lt_of_lt_of_le (hL q w).2 h.1⟩) id
section KQ
variable {G : zG} {d : Nat} {L : List Nat} {H : Heap} {p j v m a b : Nat} {s : List (List Nat)} {t x : List Nat} {A B : zA}
theorem c_Pt_take (hC : zCv G) (hd : 8 ≤ d) (h : zPt G H p j v m s) (hx : zTx G [p, j, v] H a t) (hpl : zLi G H [p, j, v]) (hk : (zFlat s).length + t.length + 1 ≤ 16000) (hR : zRm G H (3 * ((zFlat s).length + t.length + 1) + 4) (15 * ((zFlat s).length + t.length + 1) + 8)) :
    zC G d M_Pt_take [.ref p, .ref a] H (zPi fun r H1 => r = (if zPok s t = true then 1 else 0) ∧ ∃ v' m', (zPok s t = true → zPt G H1 p j v' m' (zTk s (zSpl 47 t))) ∧ (v' = v ∨ H.size ≤ v') ∧ m ≤ m' ∧ (m' = m ∨ m' ≤ 2 * ((zFlat s).length + t.length + 1)) ∧ zMo [p, j, v] H H1 ∧ zUs (2 * (t.length + 1) + (m' - m) / 18) (4 * (t.length + 1) + 2 * (m' - m)) H H1) := by
  have hxl := hx.le
  have hp0 := h.2.2.2.1.lt
  have hj0 := h.2.2.2.2.1.lt
  have hfr : zFr G p ∧ zFr G j := ⟨h.2.2.1, h.2.2.2.2.1.2.1⟩
  refine zC_in [some (.ref p), some (.ref a), none, none, none] pn_Pt_take hC.1.1.1 rfl (Nat.le_of_ble_eq_true rfl) rfl (fun ho => ?_)
  obtain ⟨k1, lt1, tx1⟩ := hC.li (L := [p, j, v]) ho hpl 12 rfl
  refine sPt_take_0 zRf_ref lt1 (by omega) (Nat.le_of_ble_eq_true rfl) (c_Tx_hasOnly hC.1.1 (by omega) hx tx1) ?_
  rintro r H1 ⟨rfl, rfl⟩ - - -
  have eall : t.all (zHo [47, 46, 45, 95]) = t.all zPg := by
    congr 1
    funext c
    exact zHo_pg c
  rw [eall]
  refine sPt_take_6 (fun e => ?_) (fun e => sPt_take_9 rfl ⟨_, rfl, ?_, v, m, fun z => ?_, Or.inl rfl, Nat.le_refl _, Or.inl rfl, zMo.rf, zUs.rf⟩)
  · have hall := if01.mp e
    refine sPt_take_11 ?_
    have okd : ∀ S s0, zPok s t = ((zSpl 47 (t.drop s0)).all (fun x => Nat.ble x.length 12) && Nat.ble (zTk S (zSpl 47 (t.drop s0))).length 6) → True := fun _ _ _ => trivial
    have main : ∀ (k i s0 : Nat) (o : Option Value) (S : List (List Nat)) (H2 : Heap) (v' m' : Nat), i + k = t.length → s0 ≤ i → (∀ c ∈ (t.drop s0).take (i - s0), c ≠ 47) → zPt G H2 p j v' m' S → zTx G [p, j, v'] H2 a t → (v' = v ∨ H1.size ≤ v') → m ≤ m' → (m' = m ∨ m' ≤ 2 * ((zFlat s).length + t.length + 1)) → (zFlat S).length ≤ (zFlat s).length + s0 → zMo [p, j, v] H1 H2 → zUs (2 * s0 + (m' - m) / 18) (4 * s0 + 2 * (m' - m)) H1 H2 → zOk G H2 →
        (zPok s t = ((zSpl 47 (t.drop s0)).all (fun x => Nat.ble x.length 12) && Nat.ble (zTk S (zSpl 47 (t.drop s0))).length 6)) → zTk s (zSpl 47 t) = zTk S (zSpl 47 (t.drop s0)) →
        zW G d M_Pt_take 15 [some (.ref p), some (.ref a), some (.int (nI s0)), some (.int (nI i)), o] [] H2 (zPi fun r H3 => r = (if zPok s t = true then 1 else 0) ∧ ∃ v' m', (zPok s t = true → zPt G H3 p j v' m' (zTk s (zSpl 47 t))) ∧ (v' = v ∨ H1.size ≤ v') ∧ m ≤ m' ∧ (m' = m ∨ m' ≤ 2 * ((zFlat s).length + t.length + 1)) ∧ zMo [p, j, v] H1 H3 ∧ zUs (2 * (t.length + 1) + (m' - m) / 18) (4 * (t.length + 1) + 2 * (m' - m)) H1 H3) := by
      intro k
      induction k with
      | zero =>
        intro i s0 o S H2 v' m' hi hs0 hno hP hT hv hm hm2 hfl hmo hus hok hpok htk
        have hin : i = t.length := (by omega)
        subst hin
        have hno' : 47 ∉ t.drop s0 := fun z => hno 47 (by rw [List.take_of_length_le (by rw [List.length_drop]; omega)]; exact z) rfl
        have hsz := hmo.1
        have hxlen : (t.drop s0).length = t.length - s0 := List.length_drop
        have hpl2 : zLi G H2 [p, j, v'] := hmo.li hpl (fun q z => by
          have hfv := hP.2.2.2.2.1.2.2.1
          have hlt := hP.2.2.2.2.1.lt.2
          simp only [List.mem_cons, List.not_mem_nil, or_false] at z ⊢
          rcases z with rfl | rfl | rfl
          · exact Or.inl (Or.inl rfl)
          · exact Or.inl (Or.inr (Or.inl rfl))
          · exact Or.inr ⟨hfv, hlt⟩)
        refine sPt_take_15 (by omega) (Nat.le_of_ble_eq_true rfl) hT.is (c_St_length hC.1.1 (by omega) hT) ?_
        rintro r H3 ⟨rfl, rfl⟩ - - -
        refine sPt_take_20 (fun z => absurd z (nI_nlt (Nat.le_refl _) (by omega))) (fun _ => ?_)
        refine sPt_take_23 (by omega) (Nat.le_of_ble_eq_true rfl) hT.is (c_St_length hC.1.1 (by omega) hT) ?_
        rintro r H3 ⟨rfl, rfl⟩ - - -
        refine sPt_take_28 (fun z => absurd rfl z) (fun _ => ?_)
        refine sPt_take_31 (fun _ => ?_) (fun z => absurd z (by decide))
        refine sPt_take_53 zRf_ref (by omega) (Nat.le_of_ble_eq_true rfl) hT.is (c_St_substring hC.1.1 (by omega) hT hs0 (Nat.le_refl _) hpl2 (hR.us hus 2 _ (by omega) (by omega))) ?_
        rintro r H4 - ⟨x4, rfl, h4, m4, u4⟩ ho4 hs4 -
        rw [List.take_of_length_le (by omega)] at h4
        have hP4 := hP.ex m4
        have hpl4 : zLi G H4 [p, j, v'] := hpl2.mo hs4
        have hus4 := hus.tr u4 (c := 2 * (t.length + 1) + (m' - m) / 18) (s := 4 * (t.length + 1) + 2 * (m' - m)) (by omega) (by omega)
        refine sPt_take_60 zRf_ref (by omega) (Nat.le_of_ble_eq_true rfl) hP4.2.2.2.1.is (c_Pt_takeOne hC (by omega) hP4 h4 hno' hpl4 true (by omega) ((hR.us hus4 2 _ (by omega) (by rw [hxlen]; omega)))) ?_
        rintro r H5 ⟨rfl, v5, m5, q1, q2, q3, q4, q5, q6, q7⟩ ho5 hs5 -
        rw [hxlen] at q1 q4 ⊢
        have espl : zSpl 47 (t.drop s0) = [t.drop s0] := spl_one hno'
        have hus5 := hus4.tr q6 (c := 2 * (t.length + 1) + (m5 - m) / 18) (s := 4 * (t.length + 1) + 2 * (m5 - m)) (by omega) (by omega)
        have hmo5 : zMo [p, j, v] H1 H5 := (hmo.ex m4).tr q5 (fun _ z => Or.inl z) (fun q z => by simp only [List.mem_cons, List.not_mem_nil, or_false] at z ⊢; omega)
        by_cases h12 : t.length - s0 ≤ 12
        · rw [if_pos h12]
          have q1' := q1 h12
          refine sPt_take_65 (fun _ => ?_) (fun z => absurd z (by decide))
          refine sPt_take_70 ?_
          have hT5 : zTx G [p, j, v5] H5 a t := (hT.ex m4).st q5 (fun q z => Or.inl z) (fun q z => by simp only [List.mem_cons, List.not_mem_nil, or_false] at z ⊢; omega)
          rw [nI_1]
          refine sPt_take_15 (by omega) (Nat.le_of_ble_eq_true rfl) hT5.is (c_St_length hC.1.1 (by omega) hT5) ?_
          rintro r H6 ⟨rfl, rfl⟩ - - -
          refine sPt_take_20 (fun _ => ?_) (fun z => absurd (nI_lt (Nat.lt_succ_self _) (by omega)) z)
          have hone : zOne true S (t.drop s0) = zTk s (zSpl 47 t) := by rw [htk, espl]; rfl
          rw [hone] at q1'
          have hlen6 := q1'.slen
          have hpk : zPok s t = Nat.ble (zTk s (zSpl 47 t)).length 6 := by
            rw [hpok, ← htk, espl]
            have : Nat.ble (t.drop s0).length 12 = true := Nat.ble_eq_true_of_le (by omega)
            rw [List.all_cons, this, List.all_nil, Bool.true_and, Bool.true_and]
          refine sPt_take_80 (q1'.2.2.2.1.fd rfl) (fun e6 => ?_) (fun e6 => ?_)
          · have e6' := (nI_ltI (a := 6) (by decide) (by omega)).mp e6
            have hf : zPok s t = false := by
              rw [hpk]
              exact (Bool.not_eq_true _).mp (fun z => by have := Nat.le_of_ble_eq_true z; omega)
            refine sPt_take_93 rfl ⟨_, rfl, by rw [hf]; rfl, v5, m5, fun z => absurd z (by rw [hf]; decide), (by omega), (by omega), (by omega), hmo5, hus5⟩
          · have e6' : ¬ 6 < (zTk s (zSpl 47 t)).length := fun z => e6 ((nI_ltI (a := 6) (by decide) (by omega)).mpr z)
            have hf : zPok s t = true := by rw [hpk]; exact Nat.ble_eq_true_of_le (by omega)
            refine sPt_take_89 rfl ⟨_, rfl, by rw [hf]; rfl, v5, m5, fun _ => q1', (by omega), (by omega), (by omega), hmo5, hus5⟩
        · rw [if_neg h12]
          have hf : zPok s t = false := by
            rw [hpok, espl]
            have : Nat.ble (t.drop s0).length 12 = false := (Bool.not_eq_true _).mp (fun z => by have := Nat.le_of_ble_eq_true z; omega)
            rw [List.all_cons, this, Bool.false_and, Bool.false_and]
          refine sPt_take_65 (fun z => absurd rfl z) (fun _ => ?_)
          refine sPt_take_68 rfl ⟨_, rfl, by rw [hf]; rfl, v5, m5, fun z => absurd z (by rw [hf]; decide), (by omega), (by omega), (by omega), hmo5, hus5⟩
      | succ k ih =>
        intro i s0 o S H2 v' m' hi hs0 hno hP hT hv hm hm2 hfl hmo hus hok hpok htk
        have hsz := hmo.1
        have hil : i < t.length := (by omega)
        have hpl2 : zLi G H2 [p, j, v'] := hmo.li hpl (fun q z => by
          have hfv := hP.2.2.2.2.1.2.2.1
          have hlt := hP.2.2.2.2.1.lt.2
          simp only [List.mem_cons, List.not_mem_nil, or_false] at z ⊢
          rcases z with rfl | rfl | rfl
          · exact Or.inl (Or.inl rfl)
          · exact Or.inl (Or.inr (Or.inl rfl))
          · exact Or.inr ⟨hfv, hlt⟩)
        refine sPt_take_15 (by omega) (Nat.le_of_ble_eq_true rfl) hT.is (c_St_length hC.1.1 (by omega) hT) ?_
        rintro r H3 ⟨rfl, rfl⟩ - - -
        refine sPt_take_20 (fun z => absurd z (nI_nlt (by omega) (by omega))) (fun _ => ?_)
        refine sPt_take_23 (by omega) (Nat.le_of_ble_eq_true rfl) hT.is (c_St_length hC.1.1 (by omega) hT) ?_
        rintro r H3 ⟨rfl, rfl⟩ - - -
        refine sPt_take_28 (fun _ => ?_) (fun z => absurd ((nI_eq (by omega) (by omega)).mp z) (by omega))
        refine sPt_take_35 (fun z => absurd rfl z) (fun _ => ?_)
        refine sPt_take_43 (by omega) (Nat.le_of_ble_eq_true rfl) hT.is (c_St_charAt hC.1.1 (by omega) hT hil) ?_
        rintro r H3 ⟨rfl, rfl⟩ - - -
        have hb := zTx_get hT.b i
        have egt : (t.drop s0).take (i + 1 - s0) = (t.drop s0).take (i - s0) ++ [t.getD i 0] := by
          rw [show i + 1 - s0 = (i - s0) + 1 by omega, take_s (by rw [List.length_drop]; omega), getD_drop, show s0 + (i - s0) = i by omega]
        refine sPt_take_48 (fun z => ?_) (fun z => ?_)
        · refine sPt_take_74 ?_
          rw [nI_1]
          refine ih (i + 1) s0 _ S H3 v' m' (by omega) (by omega) (fun c hc => ?_) hP hT hv hm hm2 hfl hmo hus hok hpok htk
          rw [egt] at hc
          rcases List.mem_append.mp hc with w | w
          · exact hno c w
          · rw [List.mem_singleton.mp w]
            exact fun w2 => z (by rw [w2]; rfl)
        · have z47 : t.getD i 0 = 47 := (nI_eq (b := 47) (by omega) (by decide)).mp z
          have hno' : 47 ∉ (t.drop s0).take (i - s0) := fun w => hno 47 w rfl
          have hxlen : ((t.drop s0).take (i - s0)).length = i - s0 := by rw [List.length_take, List.length_drop]; omega
          have edrop : t.drop s0 = (t.drop s0).take (i - s0) ++ 47 :: t.drop (i + 1) := by
            have e1 := (List.take_append_drop (i - s0) (t.drop s0)).symm
            rw [List.drop_drop, show s0 + (i - s0) = i by omega] at e1
            have e2 : t.drop i = t.getD i 0 :: t.drop (i + 1) := by
              rw [List.drop_eq_getElem_cons hil, List.getD_eq_getElem?_getD, List.getElem?_eq_getElem hil]
              rfl
            rw [e2, z47] at e1
            exact e1
          have espl : zSpl 47 (t.drop s0) = (t.drop s0).take (i - s0) :: zSpl 47 (t.drop (i + 1)) := by
            conv => lhs; rw [edrop]
            exact spl_cons hno'
          refine sPt_take_53 zRf_ref (by omega) (Nat.le_of_ble_eq_true rfl) hT.is (c_St_substring hC.1.1 (by omega) hT hs0 (by omega) hpl2 (hR.us hus 2 _ (by omega) (by omega))) ?_
          rintro r H4 - ⟨x4, rfl, h4, m4, u4⟩ ho4 hs4 -
          have hP4 := hP.ex m4
          have hpl4 : zLi G H4 [p, j, v'] := hpl2.mo hs4
          have hus4 := hus.tr u4 (c := 2 * (i + 1) + (m' - m) / 18) (s := 4 * (i + 1) + 2 * (m' - m)) (by omega) (by omega)
          refine sPt_take_60 zRf_ref (by omega) (Nat.le_of_ble_eq_true rfl) hP4.2.2.2.1.is (c_Pt_takeOne hC (by omega) hP4 h4 hno' hpl4 false (by rw [hxlen]; omega) (hR.us hus4 2 _ (by omega) (by rw [hxlen]; omega))) ?_
          rintro r H5 ⟨rfl, v5, m5, q1, q2, q3, q4, q5, q6, q7⟩ ho5 hs5 -
          rw [hxlen] at q1 q4 ⊢
          have hus5 := hus4.tr q6 (c := 2 * (i + 1) + (m5 - m) / 18) (s := 4 * (i + 1) + 2 * (m5 - m)) (by omega) (by omega)
          have hmo5 : zMo [p, j, v] H1 H5 := (hmo.ex m4).tr q5 (fun _ z => Or.inl z) (fun q z => by simp only [List.mem_cons, List.not_mem_nil, or_false] at z ⊢; omega)
          by_cases h12 : i - s0 ≤ 12
          · rw [if_pos h12]
            have q1' := q1 h12
            have hone : zOne false S ((t.drop s0).take (i - s0)) = zSt S ((t.drop s0).take (i - s0)) := rfl
            rw [hone] at q1'
            refine sPt_take_65 (fun _ => ?_) (fun z => absurd z (by decide))
            refine sPt_take_70 ?_
            rw [nI_1]
            have hT5 : zTx G [p, j, v5] H5 a t := (hT.ex m4).st q5 (fun q z => Or.inl z) (fun q z => by simp only [List.mem_cons, List.not_mem_nil, or_false] at z ⊢; omega)
            have hfl5 := zSt_flat S ((t.drop s0).take (i - s0))
            rw [hxlen] at hfl5
            refine ih (i + 1) (i + 1) _ _ H5 v5 m5 (by omega) (Nat.le_refl _) (fun c hc => ?_) q1' hT5 (by omega) (by omega) (by omega) (by omega) hmo5 hus5 ho5 ?_ ?_
            · rw [Nat.sub_self] at hc; cases hc
            · rw [hpok, espl, zTk_two spl_ne]
              have : Nat.ble ((t.drop s0).take (i - s0)).length 12 = true := Nat.ble_eq_true_of_le (by omega)
              rw [List.all_cons, this, Bool.true_and]
            · rw [htk, espl, zTk_two spl_ne]
          · rw [if_neg h12]
            have hf : zPok s t = false := by
              rw [hpok, espl]
              have : Nat.ble ((t.drop s0).take (i - s0)).length 12 = false := (Bool.not_eq_true _).mp (fun z => by have := Nat.le_of_ble_eq_true z; omega)
              rw [List.all_cons, this, Bool.false_and, Bool.false_and]
            refine sPt_take_65 (fun z => absurd rfl z) (fun _ => ?_)
            refine sPt_take_68 rfl ⟨_, rfl, by rw [hf]; rfl, v5, m5, fun z => absurd z (by rw [hf]; decide), (by omega), (by omega), (by omega), hmo5, hus5.le (by omega) (by omega)⟩
    refine main t.length 0 0 none s H1 v m (by omega) (Nat.le_refl _) (fun c hc => by rw [Nat.sub_self] at hc; cases hc) h hx (Or.inl rfl) (Nat.le_refl _) (Or.inl rfl) (Nat.le_refl _) zMo.rf (zUs.rf) ho ?_ ?_
    · unfold zPok
      rw [List.drop_zero, hall, Bool.true_and]
    · rw [List.drop_zero]
  · have hf : zPok s t = false := by
      unfold zPok
      rw [if00.mp e, Bool.false_and, Bool.false_and]
    rw [hf]; rfl
  · have hf : zPok s t = false := by
      unfold zPok
      rw [if00.mp e, Bool.false_and, Bool.false_and]
    rw [hf] at z; cases z
end KQ
