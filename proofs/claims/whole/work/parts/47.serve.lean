theorem zField_1 {x : List Nat} {A : zA} {F : zFe} (h : x = [111, 112, 101, 110]) : zField x A F = if F.2.2.2 = true then none else some (F.1, F.2.1, F.2.2.1, true) := by unfold zField; rw [if_pos h]
theorem zField_2 {x : List Nat} {A : zA} {F : zFe} (h : ¬ x = [111, 112, 101, 110]) (h2 : x.take 4 = [97, 103, 101, 61]) : zField x A F = if (F.1.isSome || !zNu (x.drop 4)) = true then none else some (some (zVal (x.drop 4)), F.2.1, F.2.2.1, F.2.2.2) := by unfold zField; rw [if_neg h, if_pos h2]
theorem zField_3 {x : List Nat} {A : zA} {F : zFe} (h : ¬ x = [111, 112, 101, 110]) (h2 : ¬ x.take 4 = [97, 103, 101, 61]) (h3 : x.take 7 = [99, 111, 111, 107, 105, 101, 61]) : zField x A F = if F.2.1.1 = [] ∧ zTw (zNo 58) (x.drop 7) < (x.drop 7).length ∧ zNm ((x.drop 7).take (zTw (zNo 58) (x.drop 7))) = true ∧ zNm ((x.drop 7).drop (zTw (zNo 58) (x.drop 7) + 1)) = true then some (F.1, ((x.drop 7).take (zTw (zNo 58) (x.drop 7)), (x.drop 7).drop (zTw (zNo 58) (x.drop 7) + 1)), F.2.2.1, F.2.2.2) else none := by unfold zField; rw [if_neg h, if_neg h2, if_pos h3]
theorem zField_4 {x : List Nat} {A : zA} {F : zFe} (h : ¬ x = [111, 112, 101, 110]) (h2 : ¬ x.take 4 = [97, 103, 101, 61]) (h3 : ¬ x.take 7 = [99, 111, 111, 107, 105, 101, 61]) (h4 : x.take 3 = [116, 111, 61]) : zField x A F = match F.2.2.1 with
    | some _ => none
    | none => (zRead (x.drop 3) A).map (fun a => (F.1, F.2.1, some a, F.2.2.2)) := by unfold zField; rw [if_neg h, if_neg h2, if_neg h3, if_pos h4]; cases F.2.2.1 <;> rfl
theorem zField_5 {x : List Nat} {A : zA} {F : zFe} (h : ¬ x = [111, 112, 101, 110]) (h2 : ¬ x.take 4 = [97, 103, 101, 61]) (h3 : ¬ x.take 7 = [99, 111, 111, 107, 105, 101, 61]) (h4 : ¬ x.take 3 = [116, 111, 61]) : zField x A F = none := by unfold zField; rw [if_neg h, if_neg h2, if_neg h3, if_neg h4]
def zPsi (F : zFe) : Nat := if F.2.2.1.isNone = true then 1 else 0
theorem take_len {x u : List Nat} {k : Nat} (h : x.take k = u) (hk : u.length = k) : k ≤ x.length := by
  have := congrArg List.length h
  rw [List.length_take] at this
  omega
theorem zPsi_le {x : List Nat} {A : zA} {F F' : zFe} (h : zField x A F = some F') : zPsi F' ≤ zPsi F := by
  unfold zField at h
  split at h
  · split at h
    · cases h
    · cases h; exact Nat.le_refl _
  · split at h
    · split at h
      · cases h
      · cases h; exact Nat.le_refl _
    · split at h
      · split at h
        · cases h; exact Nat.le_refl _
        · cases h
      · split at h
        · split at h
          · cases h
          · cases e : zRead (x.drop 3) A with
            | none => rw [e] at h; cases h
            | some b =>
              rw [e] at h
              cases h
              exact Nat.zero_le _
        · cases h
section KS
variable {G : zG} {d : Nat} {L : List Nat} {H : Heap} {p j v m a b o f : Nat} {s : List (List Nat)} {t x : List Nat} {A B : zA} {F : zFe}
/-- what reading one FIELD has come to -/
def zFres (G : zG) (L : List Nat) (f : Nat) (x : List Nat) (A : zA) (F : zFe) (H : Heap) (r : Int32) (H1 : Heap) : Prop := (zField x A F = none → r = 0 ∧ zUs (4 * x.length + 72) (26 * x.length + 1300) H H1) ∧ (∀ F', zField x A F = some F' → r = 1 ∧ zFlO G L H1 f F' ∧ zUs (4 * x.length + 12 + 60 * (zPsi F - zPsi F')) (26 * x.length + 60 + 1240 * (zPsi F - zPsi F')) H H1) ∧ zMo [f] H H1
theorem zFres.no {H1 : Heap} (h : zField x A F = none) (m : zMo [f] H H1) (u : zUs (4 * x.length + 72) (26 * x.length + 1300) H H1) : zFres G L f x A F H 0 H1 := ⟨fun _ => ⟨rfl, u⟩, (fun F' h' => by rw [h] at h'; cases h'), m⟩
theorem zFres.yes {H1 : Heap} {F' : zFe} (h : zField x A F = some F') (hF : zFlO G L H1 f F') (m : zMo [f] H H1) (u : zUs (4 * x.length + 12 + 60 * (zPsi F - zPsi F')) (26 * x.length + 60 + 1240 * (zPsi F - zPsi F')) H H1) : zFres G L f x A F H 1 H1 := ⟨(fun h' => by rw [h] at h'; cases h'), (fun F2 h' => by rw [h] at h'; cases h'; exact ⟨rfl, hF, u⟩), m⟩
theorem c_Fl_take (hC : zCv G) (hd : 11 ≤ d) (h : zFlO G L H f F) (hfL : f ∈ L) (hx : zTx G L H a x) (hB : zAd G L H b A) (hw : zWf A) (hL : zLi G H L) (hn : x.length ≤ 2000) (hR : zRm G H (4 * x.length + 320) (42 * x.length + 4100)) : zC G d M_Fl_take [.ref f, .ref a, .ref b] H (zPi fun r H1 => zFres G L f x A F H r H1) := by
  obtain ⟨h0, n, v, w, h1, t1, t2, t3⟩ := id h
  have hS : ∀ {H0 : Heap}, ∀ q ∈ [f], q ∈ L ∨ H0.size ≤ q := fun q z => Or.inl (by rw [List.mem_singleton.mp z]; exact hfL)
  have nS : ∀ {H0 : Heap}, ∀ q ∈ ([] : List Nat), q ∈ L ∨ H0.size ≤ q := fun q z => by cases z
  refine zC_in [some (.ref f), some (.ref a), some (.ref b), none] pn_Fl_take hC.1.1.1 rfl (Nat.le_of_ble_eq_true rfl) rfl (fun ho => ?_)
  obtain ⟨k0, lt0, tx0⟩ := hC.li (L := L) ho hL 8 rfl
  refine sFl_take_0 lt0 (by omega) (Nat.le_of_ble_eq_true rfl) hx.is (c_St_equals hC.1.1 (by omega) hx tx0) ?_
  rintro r H1 ⟨rfl, rfl⟩ - - -
  by_cases q1 : x = [111, 112, 101, 110]
  · rw [if_pos q1]
    have e := zField_1 (A := A) (F := F) q1
    refine sFl_take_6 (fun z => absurd z (by decide)) (fun _ => ?_)
    cases hO : F.2.2.2 with
    | true =>
      rw [hO, if_pos rfl] at e
      refine sFl_take_9 (h1.fd rfl) (fun _ => ?_) (fun z => absurd z (by rw [hO]; decide))
      refine sFl_take_20 h1 h0 rfl rfl (fun H2 g u => ?_)
      exact sFl_take_27 rfl ⟨_, rfl, zFres.no e u.mo u.us⟩
    | false =>
      rw [hO, if_neg (by decide)] at e
      refine sFl_take_9 (h1.fd rfl) (fun z => absurd (by rw [hO]; rfl) z) (fun _ => ?_)
      refine sFl_take_16 h1 h0 rfl rfl (fun H2 g u => ?_)
      refine sFl_take_27 rfl ⟨_, rfl, zFres.yes e ⟨h0, n, v, w, g, t1.mo u.mo hS, t2.mo u.mo hS, t3.st u.mo hS (fun q z => Or.inl z)⟩ u.mo u.us⟩
  rw [if_neg q1]
  refine sFl_take_6 (fun _ => ?_) (fun z => absurd rfl z)
  obtain ⟨k1, lt1, tx1⟩ := hC.li (L := L) ho hL 9 rfl
  refine sFl_take_29 zRf_ref lt1 (by omega) (Nat.le_of_ble_eq_true rfl) (c_Tx_begins hC.1.1 (by omega) hx tx1 hL (hR.le _ _ (by omega) (by simp only [List.length_cons, List.length_nil]; omega))) ?_
  rintro r H2 ⟨rfl, m2, u2⟩ ho2 hs2 -
  simp only [List.length_cons, List.length_nil] at u2 ⊢
  have hL2 := hL.mo hs2
  have hx2 := hx.ex m2
  have hF2 : zFlO G L H2 f F := h.st m2 List.not_mem_nil nS (fun q z => Or.inl z)
  by_cases q2 : x.take 4 = [97, 103, 101, 61]
  · rw [if_pos q2]
    have e := zField_2 (A := A) (F := F) q1 q2
    have l4 := take_len q2 rfl
    refine sFl_take_35 (fun z => absurd z (by decide)) (fun _ => ?_)
    refine sFl_take_38 zRf_ref (by omega) (Nat.le_of_ble_eq_true rfl) hx2.is (c_St_substring1 hC.1.1 (by omega) hx2 (i := 4) l4 hL2 (hR.us u2 _ _ (by omega) (by omega))) ?_
    rintro r H3 - ⟨c3, rfl, x3, m3, u3⟩ ho3 hs3 -
    have hF3 : zFlO G L H3 f F := hF2.st m3 List.not_mem_nil nS (fun q z => Or.inl z)
    refine sFl_take_44 zRf_ref (by omega) (Nat.le_of_ble_eq_true rfl) (by obtain ⟨_, _, _, _, g, _⟩ := hF3; exact g.is) (c_Fl_takeAge hC (by omega) hF3 hfL x3) ?_
    rintro r H4 ⟨rfl, f4, m4, u4⟩ ho4 hs4 -
    have mm : zMo [f] H1 H4 := (m2.ex m3).tr m4 (fun q z => by cases z) (fun q z => Or.inl z)
    have uu : zUs 4 (x.length + 20) H1 H4 := (u2.tr u3 (c := 4) (s := x.length + 20) (by omega) (by omega)).tr u4 (by omega) (by omega)
    cases hz : (!F.1.isSome && zNu (x.drop 4)) with
    | true =>
      have hz' := Bool.and_eq_true_iff.mp hz
      rw [if_neg (by rw [hz'.2]; simp only [Bool.not_true, Bool.or_false]; intro w; rw [w] at hz'; exact absurd hz'.1 (by decide))] at e
      exact sFl_take_47 rfl ⟨_, rfl, zFres.yes e (f4 hz) mm (uu.le (by omega) (by omega))⟩
    | false =>
      rw [if_pos (by
        cases h5 : F.1.isSome with
        | true => rfl
        | false =>
          rw [h5] at hz
          simp only [Bool.not_false, Bool.true_and] at hz
          rw [hz]; rfl)] at e
      exact sFl_take_47 rfl ⟨_, rfl, zFres.no e mm (uu.le (by omega) (by omega))⟩
  rw [if_neg q2]
  refine sFl_take_35 (fun _ => ?_) (fun z => absurd rfl z)
  obtain ⟨k2, lt2, tx2⟩ := hC.li (L := L) ho2 hL2 10 rfl
  refine sFl_take_48 zRf_ref lt2 (by omega) (Nat.le_of_ble_eq_true rfl) (c_Tx_begins hC.1.1 (by omega) hx2 tx2 hL2 (hR.us u2 _ _ (by omega) (by simp only [List.length_cons, List.length_nil]; omega))) ?_
  rintro r H3 ⟨rfl, m3, u3⟩ ho3 hs3 -
  simp only [List.length_cons, List.length_nil] at u3 ⊢
  have hL3 := hL2.mo hs3
  have hx3 := hx2.ex m3
  have hF3 : zFlO G L H3 f F := hF2.st m3 List.not_mem_nil nS (fun q z => Or.inl z)
  have u23 : zUs 4 30 H1 H3 := u2.tr u3 (by omega) (by omega)
  by_cases q3 : x.take 7 = [99, 111, 111, 107, 105, 101, 61]
  · rw [if_pos q3]
    have e := zField_3 (A := A) (F := F) q1 q2 q3
    have l7 := take_len q3 rfl
    refine sFl_take_54 (fun z => absurd z (by decide)) (fun _ => ?_)
    refine sFl_take_57 zRf_ref (by omega) (Nat.le_of_ble_eq_true rfl) hx3.is (c_St_substring1 hC.1.1 (by omega) hx3 (i := 7) l7 hL3 (hR.us u23 _ _ (by omega) (by omega))) ?_
    rintro r H4 - ⟨c4, rfl, x4, m4, u4⟩ ho4 hs4 -
    have hF4 : zFlO G L H4 f F := hF3.st m4 List.not_mem_nil nS (fun q z => Or.inl z)
    have l7' : (x.drop 7).length ≤ x.length := by rw [List.length_drop]; omega
    have u24 : zUs 6 (x.length + 34) H1 H4 := u23.tr u4 (by omega) (by omega)
    refine sFl_take_64 zRf_ref (by omega) (Nat.le_of_ble_eq_true rfl) (by obtain ⟨_, _, _, _, g, _⟩ := hF4; exact g.is) (c_Fl_takeCookie hC (by omega) hF4 hfL x4 (hL3.mo hs4) (hR.us u24 _ _ (by omega) (by omega))) ?_
    rintro r H5 ⟨p1, p2, m5, u5⟩ ho5 hs5 -
    have mm : zMo [f] H1 H5 := ((m2.ex m3).ex m4).tr m5 (fun q z => by cases z) (fun q z => Or.inl z)
    have uu : zUs 10 (3 * x.length + 42) H1 H5 := u24.tr u5 (by omega) (by omega)
    by_cases hz : F.2.1.1 = [] ∧ zTw (zNo 58) (x.drop 7) < (x.drop 7).length ∧ zNm ((x.drop 7).take (zTw (zNo 58) (x.drop 7))) = true ∧ zNm ((x.drop 7).drop (zTw (zNo 58) (x.drop 7) + 1)) = true
    · rw [if_pos hz] at e
      obtain ⟨rfl, p3⟩ := p2 hz
      exact sFl_take_67 rfl ⟨_, rfl, zFres.yes e p3 mm (uu.le (by omega) (by omega))⟩
    · rw [if_neg hz] at e
      have := p1 hz
      subst this
      exact sFl_take_67 rfl ⟨_, rfl, zFres.no e mm (uu.le (by omega) (by omega))⟩
  rw [if_neg q3]
  refine sFl_take_54 (fun _ => ?_) (fun z => absurd rfl z)
  obtain ⟨k3, lt3, tx3⟩ := hC.li (L := L) ho3 hL3 11 rfl
  refine sFl_take_68 zRf_ref lt3 (by omega) (Nat.le_of_ble_eq_true rfl) (c_Tx_begins hC.1.1 (by omega) hx3 tx3 hL3 (hR.us u23 _ _ (by omega) (by simp only [List.length_cons, List.length_nil]; omega))) ?_
  rintro r H4 ⟨rfl, m4, u4⟩ ho4 hs4 -
  simp only [List.length_cons, List.length_nil] at u4 ⊢
  have hL4 := hL3.mo hs4
  have hx4 := hx3.ex m4
  have hF4 : zFlO G L H4 f F := hF3.st m4 List.not_mem_nil nS (fun q z => Or.inl z)
  have u24 : zUs 6 40 H1 H4 := u23.tr u4 (by omega) (by omega)
  have m14 : zMo [] H1 H4 := (m2.ex m3).ex m4
  have mf : zMo [f] H1 H4 := m14.mono (fun q z => by cases z)
  by_cases q4 : x.take 3 = [116, 111, 61]
  · rw [if_pos q4]
    have e := zField_4 (A := A) (F := F) q1 q2 q3 q4
    have l3 := take_len q4 rfl
    refine sFl_take_74 (fun z => absurd z (by decide)) (fun _ => ?_)
    obtain ⟨i0, i1, i2, w4, i3, i4, i5, i6⟩ := hF4
    cases hT : F.2.2.1 with
    | some B0 =>
      rw [hT] at e i6
      obtain ⟨q, rfl, _⟩ := i6.2 B0 rfl
      exact sFl_take_77 zRf_ref (i3.fd rfl) (fun _ _ => sFl_take_110 rfl ⟨_, rfl, zFres.no e mf (u24.le (by omega) (by omega))⟩) (fun z => by cases z)
    | none =>
      rw [hT] at e i6
      have hw4 := i6.1 rfl
      subst hw4
      refine sFl_take_77 zRf_null (i3.fd rfl) (fun _ z => by cases z) (fun _ => ?_)
      refine sFl_take_84 zRf_ref (by omega) (Nat.le_of_ble_eq_true rfl) hx4.is (c_St_substring1 hC.1.1 (by omega) hx4 (i := 3) l3 hL4 (hR.us u24 _ _ (by omega) (by omega))) ?_
      rintro r H5 - ⟨c5, rfl, x5, m5, u5⟩ ho5 hs5 -
      have l3' : (x.drop 3).length ≤ x.length := by rw [List.length_drop]; omega
      have u25 : zUs 8 (x.length + 44) H1 H5 := u24.tr u5 (by omega) (by omega)
      have hB5 := hB.ex (m14.ex m5)
      refine sFl_take_90 zRf_ref zRf_ref (by omega) (Nat.le_of_ble_eq_true rfl) (c_Ad_read hC (by omega) x5 hB5 hw (hL4.mo hs5) (by omega) (hR.us u25 _ _ (by omega) (by omega))) ?_
      rintro r H6 hr ⟨p1, p2, m6, u6⟩ ho6 hs6 -
      have u26 : zUs (4 * x.length + 68) (25 * x.length + 1244) H1 H6 := u25.tr u6 (by omega) (by omega)
      have m16 := (m14.ex m5).ex m6
      refine sFl_take_94 hr (i3.ex (m5.ex m6)) h0 (fun H7 g7 u7 => ?_)
      have mm : zMo [f] H1 H7 := m16.tr u7.mo (fun q z => by cases z) (fun q z => Or.inl z)
      have uu : zUs (4 * x.length + 68) (25 * x.length + 1244) H1 H7 := u26.tr u7.us (c2 := 0) (s2 := 0) (by omega) (by omega)
      cases hz : zRead (x.drop 3) A with
      | none =>
        have := p1 hz
        subst this
        rw [hz] at e
        exact sFl_take_97 zRf_null (g7.fd rfl) (fun _ => sFl_take_108 rfl ⟨_, rfl, zFres.no e mm (uu.le (by omega) (by omega))⟩) (fun _ z => by cases z)
      | some B1 =>
        obtain ⟨c, rfl, hc⟩ := p2 B1 hz
        rw [hz] at e
        have e1 : zPsi F = 1 := by unfold zPsi; rw [hT]; rfl
        have e2 : zPsi (F.1, F.2.1, some B1, F.2.2.2) = 0 := rfl
        refine sFl_take_97 zRf_ref (g7.fd rfl) (fun z => by cases z) (fun _ _ => sFl_take_104 rfl ⟨_, rfl, zFres.yes e ⟨h0, i1, i2, .ref c, g7, ((i4.ex m5).ex m6).mo u7.mo hS, ((i5.ex m5).ex m6).mo u7.mo hS, zOa.some (hc.mo u7.mo hS)⟩ mm (by rw [e1, e2]; exact uu.le (by omega) (by omega))⟩)
  · rw [if_neg q4]
    exact sFl_take_74 (fun _ => sFl_take_110 rfl ⟨_, rfl, zFres.no (zField_5 q1 q2 q3 q4) mf (u24.le (by omega) (by omega))⟩) (fun z => absurd rfl z)
theorem zB1_01 (b : Bool) : narrow .boolean (.int (zB1 b)) = .int (zB1 b) ∧ fits .boolean (.int (zB1 b)) = true := by cases b <;> exact ⟨rfl, rfl⟩
/-- an Answer is made of Fields -/
theorem c_An_init (hC : zCv G) (hd : 1 ≤ d) {b0 b1 b2 b3 b4 b5 b6 : Value} (hO : zObj G H o 3 [b0, b1, b2, b3, b4, b5, b6]) (hof : zFr G o) (hoL : o ∉ L) (hp : zAd G (o :: L) H p A) (hF : zFlO G (o :: L) H f F) (hx : zTx G (o :: L) H a x) (hne : f ≠ o) : zC G d M_An_init [.ref o, .ref p, .ref f, .ref a] H (zPv fun H1 => zAnO G L H1 o (A, F.1.getD 0, F.2.1, F.2.2.1, F.2.2.2, x) ∧ zMo [o] H H1 ∧ zUs 0 0 H H1) := by
  obtain ⟨h0, n, v, w, h1, t1, t2, t3⟩ := hF
  have hfo : f ∉ [o] := fun z => hne (List.mem_singleton.mp z)
  have hw := t3.rf
  refine zC_in [some (.ref o), some (.ref p), some (.ref f), some (.ref a)] pn_An_init hC.1.1.1 rfl (Nat.le_of_ble_eq_true rfl) rfl (fun ho => ?_)
  refine sAn_init_0 (by omega) (Nat.le_of_ble_eq_true rfl) ?_
  refine sAn_init_4 zRf_ref hO hof (fun H1 g1 u1 => ?_)
  have k1 := h1.mo u1.mo hfo
  refine sAn_init_9 (k1.fd rfl) g1 hof (fun H2 g2 u2 => ?_)
  have k2 := k1.mo u2.mo hfo
  refine sAn_init_17 zRf_ref (k2.fd rfl) g2 hof (fun H3 g3 u3 => ?_)
  have k3 := k2.mo u3.mo hfo
  refine sAn_init_25 zRf_ref (k3.fd rfl) g3 hof (fun H4 g4 u4 => ?_)
  have k4 := k3.mo u4.mo hfo
  refine sAn_init_33 hw (k4.fd rfl) g4 hof (fun H5 g5 u5 => ?_)
  have k5 := k4.mo u5.mo hfo
  refine sAn_init_41 (k5.fd rfl) g5 hof (zB1_01 _).1 (zB1_01 _).2 (fun H6 g6 u6 => ?_)
  refine sAn_init_49 zRf_ref g6 hof (fun H7 g7 u7 => ?_)
  have mm : zMo [o] H H7 := (((((u1.mo.up u2 (Or.inl mem1)).up u3 (Or.inl mem1)).up u4 (Or.inl mem1)).up u5 (Or.inl mem1)).up u6 (Or.inl mem1)).up u7 (Or.inl mem1)
  have uu : zUs 0 0 H H7 := ⟨by have := u1.1; have := u2.1; have := u3.1; have := u4.1; have := u5.1; have := u6.1; have := u7.1; omega, by have := u1.2.1; have := u2.2.1; have := u3.2.1; have := u4.2.1; have := u5.2.1; have := u6.2.1; have := u7.2.1; omega⟩
  have hS : ∀ q ∈ [o], q ∈ o :: L ∨ H.size ≤ q := fun q z => Or.inl (by rw [List.mem_singleton.mp z]; exact List.mem_cons_self)
  have hT : ∀ q ∈ L, q ∈ o :: L ∨ H.size ≤ q := fun q z => Or.inl (List.mem_cons_of_mem _ z)
  exact sAn_init_54 ⟨rfl, ⟨hof, hoL, g7.is, p, n, v, a, w, g7.fd rfl, g7.fd rfl, g7.fd rfl, g7.fd rfl, g7.fd rfl, g7.fd rfl, g7.fd rfl, hp.st mm hS hT, t1.st mm hS hT, t2.st mm hS hT, t3.st mm hS hT, hx.st mm hS hT⟩, mm, uu⟩
/-- a ServerText at s, its Fields at f -/
def zSvO (G : zG) (L : List Nat) (H : Heap) (s f : Nat) (t : List Nat) (A : zA) (F : zFe) (y : List Nat) : Prop := zFr G s ∧ s ≠ f ∧ zFlO G L H f F ∧ ∃ a p c : Nat, zObj G H s 10 [.ref a, .ref f, .ref p, .ref c] ∧ zTx G L H a t ∧ zAd G L H p A ∧ zTx G L H c y
theorem zSvO.st {G : zG} {L L2 S : List Nat} {H H1 : Heap} {s f : Nat} {t : List Nat} {A : zA} {F : zFe} {y : List Nat} (h : zSvO G L H s f t A F y) (m : zMo S H H1) (hs : s ∉ S) (hf : f ∉ S) (hS : ∀ q ∈ S, q ∈ L ∨ H.size ≤ q) (hL : ∀ q ∈ L2, q ∈ L ∨ H.size ≤ q) : zSvO G L2 H1 s f t A F y := by
  obtain ⟨h0, h1, h2, a, p, c, h3, t1, t2, t3⟩ := h
  exact ⟨h0, h1, h2.st m hf hS hL, a, p, c, h3.mo m hs, t1.st m hS hL, t2.st m hS hL, t3.st m hS hL⟩
theorem c_Sv_init (hC : zCv G) (hd : 2 ≤ d) {s : Nat} {b0 b1 b2 b3 : Value} (hO : zObj G H s 10 [b0, b1, b2, b3]) (hs : zFr G s) (hsL : s ∈ L) (hx : zTx G L H a t) (hB : zAd G L H b B) (hL : zLi G H L) (hR : zRm G H 1 6) : zC G d M_Sv_init [.ref s, .ref a, .ref b] H (zPv fun H1 => zSvO G (H.size :: L) H1 s H.size t B zFe0 [] ∧ zMo [s] H H1 ∧ zUs 1 6 H H1) := by
  have hsl := hO.lt
  refine zC_in [some (.ref s), some (.ref a), some (.ref b)] pn_Sv_init hC.1.1.1 rfl (Nat.le_of_ble_eq_true rfl) rfl (fun ho => ?_)
  refine sSv_init_0 (by omega) (Nat.le_of_ble_eq_true rfl) ?_
  refine sSv_init_4 zRf_ref (by have := hR.1; omega) (by have := hR.2; omega) (fun H1 h1 n1 => ?_)
  have e1 : H1.size = H.size + 1 := n1.1
  have hL1 : zLi G H1 (H.size :: L) := fun q z => by
    rcases List.mem_cons.mp z with rfl | z
    · exact ⟨zFr_new ho, (by omega)⟩
    · exact (hL.mo n1.mo.1) q z
  refine sSv_init_8 (by omega) (Nat.le_of_ble_eq_true rfl) (c_Fl_init (L := H.size :: L) hC (by omega) h1 (zFr_new ho) hL1 List.mem_cons_self) ?_
  rintro H2 ⟨g1, g2, g3⟩ ho2 hs2 -
  have hO2 := (hO.ex n1.mo).mo g2 (fun z => by have := List.mem_singleton.mp z; omega)
  refine sSv_init_12 zRf_ref hO2 hs (fun H3 h3 u3 => ?_)
  obtain ⟨k0, lt0, tx0⟩ := hC.li (L := H.size :: L) (u3.ok hs ho2) (by rw [show H3 = H3 from rfl]; exact fun q z => ⟨(hL1 q z).1, by have := (hL1 q z).2; have := u3.1; omega⟩) 16 rfl
  refine sSv_init_15 lt0 h3 hs (fun H4 h4 u4 => ?_)
  refine sSv_init_21 zRf_ref h4 hs (fun H5 h5 u5 => ?_)
  refine sSv_init_26 zRf_ref h5 hs (fun H6 h6 u6 => ?_)
  have m26 : zMo [s] H2 H6 := ((u3.mo.up u4 (Or.inl mem1)).up u5 (Or.inl mem1)).up u6 (Or.inl mem1)
  have m36 : zMo [s] H3 H6 := (u4.mo.up u5 (Or.inl mem1)).up u6 (Or.inl mem1)
  have m12 : zMo [] H H2 := n1.mo.tr g2 (fun q z => by cases z) (fun q z => Or.inr (by rw [List.mem_singleton.mp z]; exact Nat.le_refl _))
  have m16 : zMo [s] H H6 := m12.tr m26 (fun q z => by cases z) (fun q z => Or.inl z)
  have hS : ∀ {H0 : Heap}, ∀ q ∈ [s], q ∈ H.size :: L ∨ H0.size ≤ q := fun q z => Or.inl (by rw [List.mem_singleton.mp z]; exact List.mem_cons_of_mem _ hsL)
  have hS0 : ∀ {H0 : Heap}, ∀ q ∈ [s], q ∈ L ∨ H0.size ≤ q := fun q z => Or.inl (by rw [List.mem_singleton.mp z]; exact hsL)
  have hT : ∀ q ∈ H.size :: L, q ∈ L ∨ H.size ≤ q := fun q z => by
    rcases List.mem_cons.mp z with rfl | z
    · exact Or.inr (Nat.le_refl _)
    · exact Or.inl z
  refine sSv_init_31 ⟨rfl, ⟨hs, (by omega), g1.st m26 (fun z => by have := List.mem_singleton.mp z; omega) hS (fun q z => Or.inl z), a, b, k0, h6, hx.st m16 hS0 hT, hB.st m16 hS0 hT, tx0.mo m36 hS⟩, m16, ?_⟩
  refine ⟨?_, ?_⟩
  · have := u3.1; have := u4.1; have := u5.1; have := u6.1; have := g3.1; omega
  · have := u3.2.1; have := u4.2.1; have := u5.2.1; have := u6.2.1; have := g3.2; have := n1.2.1; omega
def zAok (x : List Nat) (B : zA) : Option zA := if x.take 2 = [47, 47] then (match zRead x B with
  | none => none
  | some A => if A.2.2.2 = [] then some A else none) else none
theorem zAok_wf {x : List Nat} {A : zA} (h : zAok x zHome = some A) : zWf A := by
  unfold zAok at h
  split at h
  · cases e : zRead x zHome with
    | none => rw [e] at h; cases h
    | some B =>
      rw [e] at h
      simp only at h
      split at h
      · cases h; exact zRead_wf zHome_wf e
      · cases h
  · cases h
theorem c_Sv_takeAddress (hC : zCv G) (hd : 11 ≤ d) {s : Nat} {y : List Nat} (h : zSvO G L H s f t B F y) (hsL : s ∈ L) (hx : zTx G L H a x) (hw : zWf B) (hL : zLi G H L) (hn : x.length ≤ 2000) (hR : zRm G H (4 * x.length + 310) (40 * x.length + 4020)) : zC G d M_Sv_takeAddress [.ref s, .ref a] H (zPi fun r H1 => (zAok x B = none → r = 0) ∧ (∀ A, zAok x B = some A → r = 1 ∧ zSvO G L H1 s f t A F y) ∧ zMo [s] H H1 ∧ zUs (4 * x.length + 62) (24 * x.length + 1206) H H1) := by
  obtain ⟨h0, h1, h2, a1, p1, c1, h3, t1, t2, t3⟩ := h
  refine zC_in [some (.ref s), some (.ref a), none] pn_Sv_takeAddress hC.1.1.1 rfl (Nat.le_of_ble_eq_true rfl) rfl (fun ho => ?_)
  refine sSv_takeAddress_0 zRf_ref zRf_ref (h3.fd rfl) (by omega) (Nat.le_of_ble_eq_true rfl) (c_Ad_read hC (by omega) hx t2 hw hL hn (hR.le _ _ (by omega) (by omega))) ?_
  rintro r H2 hr ⟨r1, r2, m2, u2⟩ ho2 hs2 -
  have mf : zMo [s] H H2 := m2.mono (fun q z => by cases z)
  have uf : zUs (4 * x.length + 62) (24 * x.length + 1206) H H2 := u2.le (by omega) (by omega)
  cases hz : zRead x B with
  | none =>
    have := r1 hz
    subst this
    have e : zAok x B = none := by unfold zAok; rw [hz]; split <;> rfl
    exact sSv_takeAddress_8 zRf_null (fun _ => sSv_takeAddress_32 rfl ⟨_, rfl, fun _ => rfl, (fun A hA => by rw [e] at hA; cases hA), mf, uf⟩) (fun _ z => by cases z)
  | some A =>
    obtain ⟨c, rfl, hc⟩ := r2 A hz
    refine sSv_takeAddress_8 zRf_ref (fun z => by cases z) (fun _ _ => ?_)
    obtain ⟨a1', a2', cs, cp, cq, ck, a3, a4, a5, a6, a7, a8, a9, a10⟩ := id hc
    refine sSv_takeAddress_13 a6 (by omega) (Nat.le_of_ble_eq_true rfl) a10.is (c_St_isEmpty hC.1.1 a10) ?_
    rintro r H3 ⟨rfl, rfl⟩ - - -
    by_cases q1 : A.2.2.2 = []
    · rw [if_pos q1]
      refine sSv_takeAddress_20 (fun z => absurd z (by decide)) (fun _ => ?_)
      obtain ⟨k0, lt0, tx0⟩ := hC.li (L := L) ho2 (hL.mo hs2) 17 rfl
      have hx2 := hx.ex m2
      refine sSv_takeAddress_23 zRf_ref lt0 (by omega) (Nat.le_of_ble_eq_true rfl) (c_Tx_begins hC.1.1 (by omega) hx2 tx0 (hL.mo hs2) (hR.us u2 _ _ (by omega) (by simp only [List.length_cons, List.length_nil]; omega))) ?_
      rintro r H4 ⟨rfl, m4, u4⟩ ho4 hs4 -
      simp only [List.length_cons, List.length_nil] at u4 ⊢
      have u24 : zUs (4 * x.length + 62) (24 * x.length + 1206) H H4 := u2.tr u4 (by omega) (by omega)
      by_cases q2 : x.take 2 = [47, 47]
      · rw [if_pos q2]
        have e : zAok x B = some A := by
          unfold zAok
          rw [if_pos q2, hz]
          exact if_pos q1
        refine sSv_takeAddress_29 (fun _ => ?_) (fun z => absurd z (by decide))
        have m24 := m2.ex m4
        refine sSv_takeAddress_34 zRf_ref (h3.ex m24) h0 (fun H5 g5 u5 => ?_)
        have hS : ∀ {H0 : Heap}, ∀ q ∈ [s], q ∈ L ∨ H0.size ≤ q := fun q z => Or.inl (by rw [List.mem_singleton.mp z]; exact hsL)
        have mm : zMo [s] H H5 := m24.tr u5.mo (fun q z => by cases z) (fun q z => Or.inl z)
        refine sSv_takeAddress_39 rfl ⟨_, rfl, (fun z => by rw [e] at z; cases z), (fun A' hA' => ?_), mm, u24.tr u5.us (c2 := 0) (s2 := 0) (by omega) (by omega)⟩
        rw [e] at hA'
        cases hA'
        exact ⟨rfl, h0, h1, h2.st mm (fun z => h1 (List.mem_singleton.mp z).symm) hS (fun q z => Or.inl z), a1, c, c1, g5, t1.mo mm hS, (hc.ex m4).mo u5.mo hS, t3.mo mm hS⟩
      · rw [if_neg q2]
        have e : zAok x B = none := by unfold zAok; rw [if_neg q2]
        exact sSv_takeAddress_29 (fun z => absurd rfl z) (fun _ => sSv_takeAddress_32 rfl ⟨_, rfl, fun _ => rfl, (fun A hA => by rw [e] at hA; cases hA), (m2.ex m4).mono (fun q z => by cases z), u24⟩)
    · rw [if_neg q1]
      have e : zAok x B = none := by
        unfold zAok
        rw [hz]
        split
        · exact if_neg q1
        · rfl
      exact sSv_takeAddress_20 (fun _ => sSv_takeAddress_32 rfl ⟨_, rfl, fun _ => rfl, (fun A hA => by rw [e] at hA; cases hA), mf, uf⟩) (fun z => absurd rfl z)
def zFin (A : zA) (t : List Nat) : Nat ⊕ (Nat × zFe) → Nat ⊕ zAn := fun r => match r with
  | .inl p => .inl p
  | .inr q => if q.1 = t.length then .inl q.1 else if 1500 < t.length - (q.1 + 1) then .inl (q.1 + 1 + 1500) else .inr (A, q.2.1.getD 0, q.2.2.1, q.2.2.2.1, q.2.2.2.2, t.drop (q.1 + 1))
theorem zServe_eq {t : List Nat} : zServe t = match zAok (t.take (zTw zNb t)) zHome with
    | none => .inl 0
    | some A => zFin A t (zFls A t (t.length + 1) (zTw zNb t) zFe0) := by
  unfold zServe zAok
  by_cases q : (t.take (zTw zNb t)).take 2 = [47, 47]
  · rw [if_pos q, if_pos q]
    cases zRead (t.take (zTw zNb t)) zHome with
    | none => rfl
    | some A =>
      show (if A.2.2.2 = [] then _ else _) = match (if A.2.2.2 = [] then some A else none) with
        | none => Sum.inl 0
        | some A => zFin A t (zFls A t (t.length + 1) (zTw zNb t) zFe0)
      by_cases q2 : A.2.2.2 = []
      · rw [if_pos q2, if_pos q2]
        show _ = zFin A t (zFls A t (t.length + 1) (zTw zNb t) zFe0)
        unfold zFe0
        cases zFls A t (t.length + 1) (zTw zNb t) (none, ([], []), none, false) with
        | inl p => rfl
        | inr q => rfl
      · rw [if_neg q2, if_neg q2]
  · rw [if_neg q, if_neg q]
theorem zNb_iff {c : Nat} : zNb c = true ↔ c ≠ 10 ∧ c ≠ 32 := by simp [zNb]
theorem zNb_f {c : Nat} : zNb c = false ↔ c = 10 ∨ c = 32 := by simp [zNb]; omega
/-- where a piece ends -/
theorem zNb_tw {t : List Nat} {p i : Nat} (hp : p ≤ i) (hi : i ≤ zTw (zNo 10) t) (hno : ∀ j, p ≤ j → j < i → t.getD j 0 ≠ 32) (he : i = zTw (zNo 10) t ∨ t.getD i 0 = 32) : zTw zNb (t.drop p) = i - p := by
  have hl := tw_le (zNo 10) t
  apply tw_eq
  · rw [List.length_drop]; omega
  · intro j hj
    rw [getD_drop]
    exact zNb_iff.mpr ⟨zNo_iff.mp (tw_at (zNo 10) t (p + j) (by omega)), hno (p + j) (by omega) (by omega)⟩
  · intro hj
    rw [List.length_drop] at hj
    rw [getD_drop, show p + (i - p) = i by omega]
    rcases he with e | e
    · rw [e]
      have := tw_end (zNo 10) t (by omega)
      exact zNb_f.mpr (Or.inl (zNo_f.mp this))
    · exact zNb_f.mpr (Or.inr e)
theorem zFls_s {A : zA} {t : List Nat} {n q i : Nat} {F : zFe} (hq : t.getD q 0 = 32) (hql : q < t.length) (he : zTw zNb (t.drop (q + 1)) = i - (q + 1)) (hi : q + 1 ≤ i) : zFls A t (n + 1) q F = match zField ((t.drop (q + 1)).take (i - (q + 1))) A F with
    | none => .inl (q + 1)
    | some F' => zFls A t n i F' := by
  show (if q < t.length ∧ t.getD q 0 = 32 then _ else _) = _
  rw [if_pos ⟨hql, hq⟩, he, show q + 1 + (i - (q + 1)) = i by omega]
  cases zField ((t.drop (q + 1)).take (i - (q + 1))) A F <;> rfl
theorem zFls_e {A : zA} {t : List Nat} {n q : Nat} {F : zFe} (hq : ¬ (q < t.length ∧ t.getD q 0 = 32)) : zFls A t n q F = .inr (q, F) := by
  cases n with
  | zero => rfl
  | succ n => exact if_neg hq
def zSres (G : zG) (L : List Nat) (s f : Nat) (t : List Nat) (H : Heap) (r : Int32) (H1 : Heap) : Prop := (∀ p, zServe t = .inl p → r = nI p) ∧ (∀ α, zServe t = .inr α → r = -1 ∧ ∃ F : zFe, zSvO G L H1 s f t α.1 F α.2.2.2.2.2 ∧ α = (α.1, F.1.getD 0, F.2.1, F.2.2.1, F.2.2.2, α.2.2.2.2.2)) ∧ zMo [s, f] H H1 ∧ zUs (18 * t.length + 220) (90 * t.length + 3900) H H1
theorem zSres.no {H1 : Heap} {s p : Nat} (h : zServe t = .inl p) (m : zMo [s, f] H H1) (u : zUs (18 * t.length + 220) (90 * t.length + 3900) H H1) : zSres G L s f t H (nI p) H1 := ⟨(fun p' h' => by rw [h] at h'; cases h'; rfl), (fun α h' => by rw [h] at h'; cases h'), m, u⟩
theorem zSvO.fd {H : Heap} {s : Nat} {y : List Nat} (h : zSvO G L H s f t A F y) : zFlO G L H f F := h.2.2.1
theorem c_Sv_firstWrong (hC : zCv G) (hd : 12 ≤ d) {s : Nat} (h : zSvO G L H s f t zHome zFe0 []) (hsL : s ∈ L) (hfL : f ∈ L) (hL : zLi G H L) (hn : t.length ≤ 2000) (hR : zRm G H (22 * t.length + 700) (132 * t.length + 8000)) : zC G d M_Sv_firstWrong [.ref s] H (zPi fun r H1 => zSres G L s f t H r H1) := by
  have hsf := h.2.1
  have hs0 := h.1
  have hl10 := tw_le (zNo 10) t
  have hS1 : ∀ {H0 : Heap}, ∀ q ∈ [s], q ∈ L ∨ H0.size ≤ q := fun q z => Or.inl (by rw [List.mem_singleton.mp z]; exact hsL)
  have hS2 : ∀ {H0 : Heap}, ∀ q ∈ [f], q ∈ L ∨ H0.size ≤ q := fun q z => Or.inl (by rw [List.mem_singleton.mp z]; exact hfL)
  have nS : ∀ {H0 : Heap}, ∀ q ∈ ([] : List Nat), q ∈ L ∨ H0.size ≤ q := fun q z => by cases z
  have id' : ∀ {H0 : Heap}, ∀ q ∈ L, q ∈ L ∨ H0.size ≤ q := fun q z => Or.inl z
  have e32 : ¬ (zTw (zNo 10) t < t.length ∧ t.getD (zTw (zNo 10) t) 0 = 32) := fun z => by
    have := zNo_f.mp (tw_end (zNo 10) t z.1)
    rw [this] at z
    exact absurd z.2 (by decide)
  -- the end: what stands behind the fields
  have fin : ∀ (H' : Heap) (A : zA) (F : zFe) (o5 o6 : Option Value), zSvO G L H' s f t A F [] → zServe t = zFin A t (.inr (zTw (zNo 10) t, F)) → zMo [s, f] H H' → zUs (18 * t.length + 200) (89 * t.length + 2700) H H' → zOk G H' → zW G d M_Sv_firstWrong 31 [some (.ref s), some (.int (if zTw (zNo 10) t < t.length then nI (zTw (zNo 10) t) else -1)), some (.int (nI (zTw (zNo 10) t))), some (.int (nI (zTw (zNo 10) t + 1))), some (.int (nI (zTw (zNo 10) t + 1))), o5, o6] [] H' (zPi fun r H1 => zSres G L s f t H r H1) := by
    intro H' A F o5 o6 hv hz hm hu hok
    obtain ⟨v0, v1, v2, a, p, c, v3, t1, t2, t3⟩ := hv
    have hL' := hL.mo hm.1
    refine sSv_firstWrong_31 (fun _ => ?_) (fun z => absurd (nI_lt (by omega) (by omega)) z)
    by_cases q : zTw (zNo 10) t < t.length
    · rw [if_pos q]
      refine sSv_firstWrong_115 (fun _ => ?_) (fun z => absurd (nI_pos' (by omega)) z)
      refine sSv_firstWrong_127 (v3.fd rfl) (by omega) (Nat.le_of_ble_eq_true rfl) t1.is (by rw [nI_1]; exact c_St_substring1 hC.1.1 (by omega) t1 q hL' (hR.us hu _ _ (by omega) (by omega))) ?_
      rintro r H2 - ⟨c2, rfl, x2, m2, u2⟩ ho2 hs2 -
      refine sSv_firstWrong_138 zRf_ref (v3.ex m2) v0 (fun H3 g3 u3 => ?_)
      have x3 := x2.mo u3.mo hS1
      refine sSv_firstWrong_141 (g3.fd rfl) (by omega) (Nat.le_of_ble_eq_true rfl) x3.is (c_St_length hC.1.1 (by omega) x3) ?_
      rintro r H4 ⟨rfl, rfl⟩ - - -
      have hld : (t.drop (zTw (zNo 10) t + 1)).length = t.length - (zTw (zNo 10) t + 1) := List.length_drop
      have mm : zMo [s, f] H H4 := (hm.ex m2).up u3 (Or.inl List.mem_cons_self)
      have uu : zUs (18 * t.length + 220) (90 * t.length + 3900) H H4 := (hu.tr u2 (c := 18 * t.length + 202) (s := 90 * t.length + 2704) (by omega) (by omega)).tr u3.us (c2 := 0) (s2 := 0) (by omega) (by omega)
      have hz2 : zServe t = if 1500 < t.length - (zTw (zNo 10) t + 1) then .inl (zTw (zNo 10) t + 1 + 1500) else .inr (A, F.1.getD 0, F.2.1, F.2.2.1, F.2.2.2, t.drop (zTw (zNo 10) t + 1)) := by
        rw [hz]
        exact if_neg (by show ¬ zTw (zNo 10) t = t.length; omega)
      refine sSv_firstWrong_148 (fun z => ?_) (fun z => ?_)
      · have hle := (nI_leI (b := 1500) (by omega) (by decide)).mp z
        rw [if_neg (by omega)] at hz2
        refine sSv_firstWrong_164 ⟨_, rfl, (fun p' h' => by rw [hz2] at h'; cases h'), (fun α h' => ?_), mm, uu⟩
        rw [hz2] at h'
        cases h'
        exact ⟨rfl, F, ⟨v0, v1, (v2.st m2 List.not_mem_nil nS id').st u3.mo (fun z => v1 (List.mem_singleton.mp z).symm) hS1 id', a, p, c2, g3, (t1.ex m2).mo u3.mo hS1, (t2.ex m2).mo u3.mo hS1, x3⟩, rfl⟩
      · have hgt : 1500 < t.length - (zTw (zNo 10) t + 1) := by
          rcases Nat.lt_or_ge 1500 (t.drop (zTw (zNo 10) t + 1)).length with w | w
          · omega
          · exact absurd ((nI_leI (b := 1500) (by omega) (by decide)).mpr w) z
        rw [if_pos hgt] at hz2
        refine sSv_firstWrong_154 ⟨_, rfl, ?_⟩
        have : nI (zTw (zNo 10) t) + 1 + 1500 = nI (zTw (zNo 10) t + 1 + 1500) := by rw [nI_1]; exact nI_add _ 1500
        rw [this]
        exact zSres.no hz2 mm uu
    · rw [if_neg q]
      refine sSv_firstWrong_115 (fun z => absurd z (by decide)) (fun _ => ?_)
      refine sSv_firstWrong_119 (v3.fd rfl) (by omega) (Nat.le_of_ble_eq_true rfl) t1.is (c_St_length hC.1.1 (by omega) t1) ?_
      rintro r H2 ⟨rfl, rfl⟩ - - -
      refine sSv_firstWrong_126 ⟨_, rfl, zSres.no (p := t.length) ?_ hm (hu.le (by omega) (by omega))⟩
      rw [hz]
      have e : zTw (zNo 10) t = t.length := by omega
      exact (if_pos e).trans (by rw [e])
  -- a field
  have pieceB : ∀ (i q n : Nat) (H' : Heap) (A : zA) (F : zFe) (o5 o6 : Option Value), i ≤ zTw (zNo 10) t → q + 1 ≤ i → t.getD q 0 = 32 → (∀ j, q + 1 ≤ j → j < i → t.getD j 0 ≠ 32) → (i = zTw (zNo 10) t ∨ t.getD i 0 = 32) → zWf A → zSvO G L H' s f t A F [] → zServe t = zFin A t (zFls A t (n + 1) q F) → zMo [s, f] H H' → zUs (4 * t.length + 70 + 14 * (q + 1) + 60 * (1 - zPsi F)) (25 * t.length + 1220 + 64 * (q + 1) + 1240 * (1 - zPsi F)) H H' → zOk G H' →
      (∀ (H2 : Heap) (F' : zFe) (o5 o6 : Option Value), zSvO G L H2 s f t A F' [] → zServe t = zFin A t (zFls A t n i F') → zMo [s, f] H H2 → zUs (4 * t.length + 70 + 14 * (i + 1) + 60 * (1 - zPsi F')) (25 * t.length + 1220 + 64 * (i + 1) + 1240 * (1 - zPsi F')) H H2 → zOk G H2 → zW G d M_Sv_firstWrong 31 [some (.ref s), some (.int (if zTw (zNo 10) t < t.length then nI (zTw (zNo 10) t) else -1)), some (.int (nI (zTw (zNo 10) t))), some (.int (nI (i + 1))), some (.int (nI (i + 1))), o5, o6] [] H2 (zPi fun r H1 => zSres G L s f t H r H1)) →
      zW G d M_Sv_firstWrong 57 [some (.ref s), some (.int (if zTw (zNo 10) t < t.length then nI (zTw (zNo 10) t) else -1)), some (.int (nI (zTw (zNo 10) t))), some (.int (nI (q + 1))), some (.int (nI i)), o5, o6] [] H' (zPi fun r H1 => zSres G L s f t H r H1) := by
    intro i q n H' A F o5 o6 hi hqi hq32 hno hend hwA hv hz hm hu hok cont
    have hpsi : zPsi F ≤ 1 := by unfold zPsi; split <;> omega
    obtain ⟨v0, v1, v2, a, p, c, v3, t1, t2, t3⟩ := id hv
    have hL' := hL.mo hm.1
    have etw := zNb_tw (by omega : q + 1 ≤ i) hi hno hend
    rw [zFls_s hq32 (by omega) etw hqi] at hz
    refine sSv_firstWrong_57 (v3.fd rfl) (by omega) (Nat.le_of_ble_eq_true rfl) t1.is (c_St_substring hC.1.1 (by omega) t1 hqi (by omega) hL' (hR.us hu _ _ (by omega) (by omega))) ?_
    rintro r H2 - ⟨c2, rfl, x2, m2, u2⟩ ho2 hs2 -
    have hxl : ((t.drop (q + 1)).take (i - (q + 1))).length = i - (q + 1) := by rw [List.length_take, List.length_drop]; omega
    have hv2 : zSvO G L H2 s f t A F [] := hv.st m2 List.not_mem_nil List.not_mem_nil nS id'
    obtain ⟨-, -, w2, a', p', c', w3, y1, y2, y3⟩ := id hv2
    refine sSv_firstWrong_67 zRf_ref (fun _ => ?_) (fun z => absurd z (nI_ne0 (by omega) (by omega)))
    have hu2 : zUs (4 * t.length + 72 + 14 * (q + 1) + 60 * (1 - zPsi F)) (25 * t.length + 1224 + 64 * (q + 1) + (i - (q + 1)) + 1240 * (1 - zPsi F)) H H2 := hu.tr u2 (by omega) (by omega)
    refine sSv_firstWrong_82 zRf_ref zRf_ref (w3.fd rfl) (w3.fd rfl) (by omega) (Nat.le_of_ble_eq_true rfl) (by obtain ⟨_, _, _, _, g, _⟩ := w2; exact g.is) (c_Fl_take hC (by omega) w2 hfL x2 y2 hwA (hL'.mo hs2) (by rw [hxl]; omega) (hR.us hu2 _ _ (by rw [hxl]; omega) (by rw [hxl]; omega))) ?_
    rintro r H3 ⟨r1, r2, m3⟩ ho3 hs3 -
    have m13 : zMo [s, f] H H3 := (hm.ex m2).tr m3 (fun _ z => Or.inl z) (fun q z => Or.inl (by rw [List.mem_singleton.mp z]; exact List.mem_cons_of_mem _ mem1))
    cases hf : zField ((t.drop (q + 1)).take (i - (q + 1))) A F with
    | none =>
      obtain ⟨rfl, u3⟩ := r1 hf
      rw [hf] at hz
      rw [hxl] at u3
      exact sSv_firstWrong_95 (fun z => absurd rfl z) (fun _ => sSv_firstWrong_102 ⟨_, rfl, zSres.no hz m13 (hu2.tr u3 (by omega) (by omega))⟩)
    | some F' =>
      obtain ⟨rfl, f3, u3⟩ := r2 F' hf
      have hle := zPsi_le hf
      rw [hf] at hz
      rw [hxl] at u3
      refine sSv_firstWrong_95 (fun _ => ?_) (fun z => absurd z (by decide))
      refine sSv_firstWrong_104 ?_
      rw [nI_1]
      refine cont H3 F' _ _ ⟨v0, v1, f3, a', p', c', w3.mo m3 (fun z => v1 (List.mem_singleton.mp z)), y1.mo m3 hS2, y2.mo m3 hS2, y3.mo m3 hS2⟩ hz m13 (hu2.tr u3 (by omega) (by omega)) ho3
  have mainB : ∀ (k i q n : Nat) (H' : Heap) (A : zA) (F : zFe) (o5 o6 : Option Value), i + k = zTw (zNo 10) t → q + 1 ≤ i → t.getD q 0 = 32 → (∀ j, q + 1 ≤ j → j < i → t.getD j 0 ≠ 32) → zWf A → zSvO G L H' s f t A F [] → zServe t = zFin A t (zFls A t n q F) → zTw (zNo 10) t + 1 ≤ q + n → zMo [s, f] H H' → zUs (4 * t.length + 70 + 14 * (q + 1) + 60 * (1 - zPsi F)) (25 * t.length + 1220 + 64 * (q + 1) + 1240 * (1 - zPsi F)) H H' → zOk G H' → zW G d M_Sv_firstWrong 31 [some (.ref s), some (.int (if zTw (zNo 10) t < t.length then nI (zTw (zNo 10) t) else -1)), some (.int (nI (zTw (zNo 10) t))), some (.int (nI (q + 1))), some (.int (nI i)), o5, o6] [] H' (zPi fun r H1 => zSres G L s f t H r H1) := by
    intro k
    induction k with
    | zero =>
      intro i q n H' A F o5 o6 hik hqi hq32 hno hwA hv hz hfu hm hu hok
      obtain ⟨n, rfl⟩ : ∃ n', n = n' + 1 := ⟨n - 1, by omega⟩
      have hi : i = zTw (zNo 10) t := by omega
      refine sSv_firstWrong_31 (fun z => absurd z (nI_nlt (by omega) (by omega))) (fun _ => ?_)
      refine sSv_firstWrong_37 (fun _ => ?_) (fun z => absurd (by rw [hi]) z)
      refine pieceB i q n H' A F _ _ (by omega) hqi hq32 hno (Or.inl hi) hwA hv hz hm hu hok (fun H2 F' o5 o6 g1 g2 g3 g4 g5 => ?_)
      rw [hi] at g2 g4 ⊢
      rw [zFls_e e32] at g2
      have : zPsi F' ≤ 1 := by unfold zPsi; split <;> omega
      exact fin H2 A F' o5 o6 g1 g2 g3 (g4.le (by omega) (by omega)) g5
    | succ k ih =>
      intro i q n H' A F o5 o6 hik hqi hq32 hno hwA hv hz hfu hm hu hok
      obtain ⟨n, rfl⟩ : ∃ n', n = n' + 1 := ⟨n - 1, by omega⟩
      obtain ⟨v0, v1, v2, a, p, c, v3, t1, t2, t3⟩ := id hv
      refine sSv_firstWrong_31 (fun z => absurd z (nI_nlt (by omega) (by omega))) (fun _ => ?_)
      refine sSv_firstWrong_37 (fun z => absurd ((nI_eq (by omega) (by omega)).mp z) (by omega)) (fun _ => ?_)
      refine sSv_firstWrong_43 (v3.fd rfl) (by omega) (Nat.le_of_ble_eq_true rfl) t1.is (c_St_charAt hC.1.1 (by omega) t1 (i := i) (by omega)) ?_
      rintro r H2 ⟨rfl, rfl⟩ - - -
      have hb := zTx_get t1.b i
      refine sSv_firstWrong_52 (fun z => ?_) (fun z => ?_)
      · refine sSv_firstWrong_109 ?_
        rw [nI_1]
        refine ih (i + 1) q (n + 1) H2 A F o5 o6 (by omega) (by omega) hq32 (fun j h1 h2 => ?_) hwA hv hz hfu hm hu hok
        by_cases e : j = i
        · rw [e]; intro w; rw [w] at z; exact z rfl
        · exact hno j h1 (by omega)
      · have h32 : t.getD i 0 = 32 := (nI_eq (b := 32) (by omega) (by decide)).mp z
        refine pieceB i q n H2 A F _ _ (by omega) hqi hq32 hno (Or.inr h32) hwA hv hz hm hu hok (fun H3 F' o5 o6 g1 g2 g3 g4 g5 => ?_)
        exact ih (i + 1) i n H3 A F' o5 o6 (by omega) (by omega) h32 (fun j h1 h2 => absurd h1 (by omega)) hwA g1 g2 (by omega) g3 g4 g5
  -- the address
  have pieceA : ∀ (i : Nat) (o5 o6 : Option Value), i ≤ zTw (zNo 10) t → (∀ j, j < i → t.getD j 0 ≠ 32) → (i = zTw (zNo 10) t ∨ t.getD i 0 = 32) → zOk G H →
      (∀ (H2 : Heap) (A : zA) (o5 o6 : Option Value), zWf A → zSvO G L H2 s f t A zFe0 [] → zServe t = zFin A t (zFls A t (t.length + 1) i zFe0) → zMo [s, f] H H2 → zUs (4 * t.length + 64) (25 * t.length + 1210) H H2 → zOk G H2 → zW G d M_Sv_firstWrong 31 [some (.ref s), some (.int (if zTw (zNo 10) t < t.length then nI (zTw (zNo 10) t) else -1)), some (.int (nI (zTw (zNo 10) t))), some (.int (nI (i + 1))), some (.int (nI (i + 1))), o5, o6] [] H2 (zPi fun r H1 => zSres G L s f t H r H1)) →
      zW G d M_Sv_firstWrong 57 [some (.ref s), some (.int (if zTw (zNo 10) t < t.length then nI (zTw (zNo 10) t) else -1)), some (.int (nI (zTw (zNo 10) t))), some (.int (nI 0)), some (.int (nI i)), o5, o6] [] H (zPi fun r H1 => zSres G L s f t H r H1) := by
    intro i o5 o6 hi hno hend hok cont
    obtain ⟨v0, v1, v2, a, p, c, v3, t1, t2, t3⟩ := id h
    have etw := zNb_tw (Nat.zero_le i) hi (fun j _ h2 => hno j h2) hend
    rw [List.drop_zero, Nat.sub_zero] at etw
    have hz := zServe_eq (t := t)
    rw [etw] at hz
    refine sSv_firstWrong_57 (v3.fd rfl) (by omega) (Nat.le_of_ble_eq_true rfl) t1.is (c_St_substring hC.1.1 (by omega) t1 (Nat.zero_le _) (by omega) hL (hR.le _ _ (by omega) (by omega))) ?_
    rintro r H2 - ⟨c2, rfl, x2, m2, u2⟩ ho2 hs2 -
    rw [List.drop_zero, Nat.sub_zero] at x2
    rw [Nat.sub_zero] at u2
    have hxl : (t.take i).length = i := by rw [List.length_take]; omega
    have hv2 : zSvO G L H2 s f t zHome zFe0 [] := h.st m2 List.not_mem_nil List.not_mem_nil nS id'
    refine sSv_firstWrong_67 zRf_ref (fun z => absurd nI_0 z) (fun _ => ?_)
    refine sSv_firstWrong_73 zRf_ref (by omega) (Nat.le_of_ble_eq_true rfl) (by obtain ⟨_, _, _, _, _, _, g, _⟩ := hv2; exact g.is) (c_Sv_takeAddress hC (by omega) hv2 hsL x2 zHome_wf (hL.mo hs2) (by rw [hxl]; omega) (hR.us u2 _ _ (by rw [hxl]; omega) (by rw [hxl]; omega))) ?_
    rintro r H3 ⟨r1, r2, m3, u3⟩ ho3 hs3 -
    rw [hxl] at u3
    have m13 : zMo [s, f] H H3 := m2.tr m3 (fun q z => by cases z) (fun q z => Or.inl (by rw [List.mem_singleton.mp z]; exact List.mem_cons_self))
    cases hf : zAok (t.take i) zHome with
    | none =>
      have := r1 hf
      subst this
      rw [hf] at hz
      exact sSv_firstWrong_79 (fun z => absurd rfl z) (fun _ => sSv_firstWrong_102 ⟨_, rfl, zSres.no hz m13 (u2.tr u3 (by omega) (by omega))⟩)
    | some A =>
      obtain ⟨rfl, f3⟩ := r2 A hf
      rw [hf] at hz
      refine sSv_firstWrong_79 (fun _ => ?_) (fun z => absurd z (by decide))
      refine sSv_firstWrong_104 ?_
      rw [nI_1]
      exact cont H3 A _ _ (zAok_wf hf) f3 hz m13 (u2.tr u3 (by omega) (by omega)) ho3
  have mainA : ∀ (k i : Nat) (o5 o6 : Option Value), i + k = zTw (zNo 10) t → (∀ j, j < i → t.getD j 0 ≠ 32) → zOk G H → zW G d M_Sv_firstWrong 31 [some (.ref s), some (.int (if zTw (zNo 10) t < t.length then nI (zTw (zNo 10) t) else -1)), some (.int (nI (zTw (zNo 10) t))), some (.int (nI 0)), some (.int (nI i)), o5, o6] [] H (zPi fun r H1 => zSres G L s f t H r H1) := by
    intro k
    induction k with
    | zero =>
      intro i o5 o6 hik hno hok
      have hi : i = zTw (zNo 10) t := by omega
      refine sSv_firstWrong_31 (fun z => absurd z (nI_nlt (by omega) (by omega))) (fun _ => ?_)
      refine sSv_firstWrong_37 (fun _ => ?_) (fun z => absurd (by rw [hi]) z)
      refine pieceA i _ _ (by omega) hno (Or.inl hi) hok (fun H2 A o5 o6 g0 g1 g2 g3 g4 g5 => ?_)
      rw [hi] at g2 ⊢
      rw [zFls_e e32] at g2
      exact fin H2 A zFe0 o5 o6 g1 g2 g3 (g4.le (by omega) (by omega)) g5
    | succ k ih =>
      intro i o5 o6 hik hno hok
      obtain ⟨v0, v1, v2, a, p, c, v3, t1, t2, t3⟩ := id h
      refine sSv_firstWrong_31 (fun z => absurd z (nI_nlt (by omega) (by omega))) (fun _ => ?_)
      refine sSv_firstWrong_37 (fun z => absurd ((nI_eq (by omega) (by omega)).mp z) (by omega)) (fun _ => ?_)
      refine sSv_firstWrong_43 (v3.fd rfl) (by omega) (Nat.le_of_ble_eq_true rfl) t1.is (c_St_charAt hC.1.1 (by omega) t1 (i := i) (by omega)) ?_
      rintro r H2 ⟨rfl, rfl⟩ - - -
      have hb := zTx_get t1.b i
      refine sSv_firstWrong_52 (fun z => ?_) (fun z => ?_)
      · refine sSv_firstWrong_109 ?_
        rw [nI_1]
        refine ih (i + 1) o5 o6 (by omega) (fun j h2 => ?_) hok
        by_cases e : j = i
        · rw [e]; intro w; rw [w] at z; exact z rfl
        · exact hno j (by omega)
      · have h32 : t.getD i 0 = 32 := (nI_eq (b := 32) (by omega) (by decide)).mp z
        refine pieceA i _ _ (by omega) hno (Or.inr h32) hok (fun H3 A o5 o6 g0 g1 g2 g3 g4 g5 => ?_)
        exact mainB k (i + 1) i (t.length + 1) H3 A zFe0 o5 o6 (by omega) (by omega) h32 (fun j h1 h2 => absurd h1 (by omega)) g0 g1 g2 (by omega) g3 (g4.le (by omega) (by omega)) g5
  obtain ⟨v0, v1, v2, a, p, c, v3, t1, t2, t3⟩ := id h
  refine zC_in [some (.ref s), none, none, none, none, none, none] pn_Sv_firstWrong hC.1.1.1 rfl (Nat.le_of_ble_eq_true rfl) rfl (fun ho => ?_)
  refine sSv_firstWrong_0 (v3.fd rfl) (by omega) (Nat.le_of_ble_eq_true rfl) t1.is (c_St_indexOf hC.1.1 (by omega) t1 (c := 10) (by decide)) ?_
  rintro r H1 ⟨rfl, rfl⟩ - - -
  rw [zIx_tw]
  by_cases q : zTw (zNo 10) t < t.length
  · have e := mainA (zTw (zNo 10) t) 0 none none (by omega) (fun j hj => absurd hj (Nat.not_lt_zero _)) ho
    rw [if_pos q] at e ⊢
    refine sSv_firstWrong_9 (fun _ => sSv_firstWrong_24 e) (fun z => absurd (nI_pos' (by omega)) z)
  · have e := mainA (zTw (zNo 10) t) 0 none none (by omega) (fun j hj => absurd hj (Nat.not_lt_zero _)) ho
    rw [if_neg q] at e ⊢
    refine sSv_firstWrong_9 (fun z => absurd z (by decide)) (fun _ => ?_)
    refine sSv_firstWrong_14 (v3.fd rfl) (by omega) (Nat.le_of_ble_eq_true rfl) t1.is (c_St_length hC.1.1 (by omega) t1) ?_
    rintro r H2 ⟨rfl, rfl⟩ - - -
    rw [show zTw (zNo 10) t = t.length by omega] at e
    exact sSv_firstWrong_21 e
end KS
