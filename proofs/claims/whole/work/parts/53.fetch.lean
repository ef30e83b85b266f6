section KF
variable {G : zG} {d : Nat} {K : Nat → Nat} {R R' : Nat → List Nat} {M : Nat → Nat} {H H1 H' : Heap} {T : zTT} {D : zDD} {Q : zRR} {C : zCC} {c o v m v' m' x a : Nat} {u : List Nat} {A : zA}
theorem zRa_L {e : Nat} : ∀ q ∈ zRL (zRa R c e), q ∈ e :: zRL R := by
  intro q hq
  obtain ⟨i, hi, hq⟩ := zRL_of hq
  by_cases z : i = c
  · subst z
    rw [zRa_s] at hq
    rcases List.mem_cons.mp hq with rfl | hq
    · exact List.mem_cons_self
    · exact List.mem_cons_of_mem _ (zRL_mem hi hq)
  · rw [zRa_n z] at hq
    exact List.mem_cons_of_mem _ (zRL_mem hi hq)
/-- a list of the desk has got one more -/
theorem zVres.rs {α : Type} {P : List Nat → Heap → Nat → α → Prop} {ci b m : Nat} {ys : List α} (hK : zKd G ci P) (hc : c < 7) (h : zVres G P (zRL R) (R c) H b m ci ys H1) (ho1 : zOk G H1) : ∃ R' m', zRs c R R' H H1 ∧ zVr G P (zRL R') H1 (R' c) b m' ci ys ∧ zMo (R c) H H1 ∧ m ≤ m' ∧ zUs (m' - m) (4 * (m' - m)) H H1 ∧ (m' = m ∨ m' ≤ 60) := by
  obtain ⟨e', m', g1, g2, g3, g4, g5, g6⟩ := h
  refine ⟨zRa R c e', m', zRs_add g1, ?_, g5, g3, g6, g4⟩
  exact zVr.st hK g2 zMo.rf (S := []) ho1 ho1 (fun q _ z => by cases z) (fun q z => by cases z) (fun q z => Or.inl (zRa_L q z)) (fun q z => by rw [zRa_s]; exact z) (fun q z => zRL_mem (by omega) z)
/-- what follows a request: the answer's cookie, what is kept -/
theorem c_N_request (hC : zCv G) (hd : 9 ≤ d) (h : zDk G K R M H T D Q C) (hA : zAd G (zRL R) H a A) (hw : zWf A) (hD : zDDW D) (hN : zDN D) (hR : zRm G H 200 5000) : zC G d M_N_request [.ref (K 0), .ref a] H (zPr fun k H1 => ∃ q R' M', k = .ref q ∧ zAnO G (zRL R') H1 q ((zReq D Q A).2.2.getD zEmp) ∧ zDk G K R' M' H1 T (zReq D Q A).1 (zReq D Q A).2.1 C ∧ zSx R M H R' M' 2 5 H1) := by
  refine zC_in [some (.ref (K 0)), some (.ref a), none, none] pn_N_request hC.1.1.1 rfl (Nat.le_of_ble_eq_true rfl) rfl (fun ho => ?_)
  have nS : ∀ {L : List Nat} {Hx : Heap}, ∀ q ∈ ([] : List Nat), q ∈ L ∨ Hx.size ≤ q := fun q z => by cases z
  have id' : ∀ {L : List Nat} {Hx : Heap}, ∀ q ∈ L, q ∈ L ∨ Hx.size ≤ q := fun q z => Or.inl z
  obtain ⟨h0, h1, ⟨vb, cm, fm, wr, wf, hO, hI⟩, h3, h4, ⟨q0, q16, q8, w, q1, q2⟩, h6, h7, h8, h9⟩ := id h
  have hS0 : ∀ {Hx : Heap}, ∀ q ∈ [K 0], q ∈ zRL R ∨ Hx.size ≤ q := fun q z => Or.inl (by rw [List.mem_singleton.mp z]; exact zRL_mem (by omega) h1)
  -- requests, requestAt
  refine sN_request_0 (hO.fd rfl) hO h.fr (fun H1 g1 u1 => ?_)
  rw [nI_1] at g1
  have ho1 := u1.ok h.fr ho
  refine sN_request_10 zRf_ref g1 h.fr (fun H2 g2 u2 => ?_)
  have ho2 := u2.ok h.fr ho1
  have m02 : zMo [K 0] H H2 := u1.mo.up u2 (Or.inl mem1)
  have u02 : zUs 0 0 H H2 := u1.us.tr u2.us (c1 := 0) (s1 := 0) (c2 := 0) (s2 := 0) (by omega) (by omega)
  have hA2 := hA.mo m02 hS0
  have hI2 := hI.st m02 hS0 id'
  have up02 : zUp (K 0) H H2 := ⟨u2.1.trans u1.1, u2.2.1.trans u1.2.1, fun q hq => (u2.2.2 q hq).trans (u1.2.2 q hq)⟩
  have D2 : zDk G K R M H2 T D (Q.1 + 1, some A, Q.2.2) C := h.px up02 ho ho2 (b := T.2.2) (clk := D.2.2.2) (rq := Q.1 + 1) (ra := some A) (C' := C) ⟨vb, cm, fm, .ref a, wf, g2, hI2.1, zOa.some hA2, hI2.2.2.1, hI2.2.2.2.1, hI2.2.2.2.2⟩
  have s2 : zSx R M H R M 0 0 H2 := zSx.one (c := 0) (by omega) zRs.rf (m02.mono (fun q z => Or.inl (by rw [List.mem_singleton.mp z]; exact h1))) (Nat.le_refl _) (u02.le (by omega) (by omega))
  -- what goes with it
  have q22 : zSB G H2 (K 3) w (M 3) Q.2.2 := by
    have d3 : ∀ q ∈ R 3, q ∉ [K 0] := fun q z y => by rw [List.mem_singleton.mp y] at z; exact h0.2 0 3 (by omega) (by omega) (by omega) _ h1 z
    exact q2.mo m02 (d3 _ q0) (d3 _ q1)
  refine sN_request_15 (g2.fd rfl) (by omega) (Nat.le_of_ble_eq_true rfl) q22.is (c_Sb_setLength hC.1.1 (by omega) q22 (n := 0) (Nat.zero_le _)) ?_
  rintro H3 ⟨e1, e2, e3⟩ ho3 hs3 -
  have e1' : zSB G H3 (K 3) w (M 3) [] := e1
  have m3 : zMo (R 3) H2 H3 := e2.mono (fun q z => Or.inl (by rw [List.mem_singleton.mp z]; exact q0))
  have D3 := D2.p3 m3 (zRs.rf (R := R)) ho2 ho3 (m := M 3) (t := []) ⟨q0, q16, q8, w, q1, e1'⟩
  rw [upd_same] at D3
  have s3 : zSx R M H R M 0 0 H3 := s2.tr (zSx.one (c := 3) (R := R) (R' := R) (M := M) (M' := M) (cc := 0) (ss := 0) (by omega) zRs.rf m3 (Nat.le_refl _) (e3.le (by omega) (by omega))) (by omega) (by omega)
  have hS3 : ∀ {Hx : Heap}, ∀ q ∈ R 3, q ∈ zRL R ∨ Hx.size ≤ q := fun q z => Or.inl (zRL_mem (by omega) z)
  have hA3 := hA2.mo m3 hS3
  obtain ⟨-, -, ⟨vb3, cm3, fm3, wr3, wf3, hO3, hI3⟩, -, -, -, i6, i7, i8, i9⟩ := id D3
  obtain ⟨f1, f2, f3, f4, f5, f6, f7, f8⟩ := id i9
  obtain ⟨a1, a2, cs, cp, cq, ck, a3, a4, a5, a6, a7, a8, a9, a10⟩ := id hA3
  have us3 := s3.2.2.2.2
  rw [Nat.sub_self] at us3
  refine sN_request_23 zRf_ref zRf_ref (hO3.fd rfl) a3 (hO3.fd rfl) (by omega) (Nat.le_of_ble_eq_true rfl) f2 (c_Jr_tell hC (by omega) q16 e1' f3 (fun z => f1 (by rw [z]; exact zRL_mem (by omega) q0)) (fun z => f1 (by rw [z]; exact zRL_mem (by omega) q1)) i7 (h0.2 3 5 (by omega) (by omega) (by omega) _ q0) (h0.2 3 5 (by omega) (by omega) (by omega) _ q1) (zRL_mem (by omega) q0) (zRL_mem (by omega) q1) a7 hD.2.2.2.1 hD.2.2.2.2.1 (hR.us us3 _ _ (by omega) (by omega))) ?_
  rintro H4 ⟨v4, m4, hT4⟩ ho4 hs4 -
  obtain ⟨k1, k2, k3⟩ := zSr_of (c := 3) (R := R) q0 q16 q8 (by decide) hT4 q1
  have D4 := D3.p3 k3 k1 ho3 ho4 k2
  have h43 := hT4.2.2.1
  have s4 : zSx R M H (zRa R 3 v4) (fun i => if i = 3 then m4 else M i) 0 0 H4 := s3.tr (zSx.one (c := 3) (cc := 0) (ss := 0) (by omega) k1 k3 (by rw [zPh_3]; unfold zPh; omega) (by rw [zPh_3]; unfold zPh; exact hT4.2.2.2.2.2.le (by omega) (by omega))) (by omega) (by omega)
  have hA4 : zAd G (zRL (zRa R 3 v4)) H4 a A := hA3.st k3 hS3 k1.L
  have hus4 : zUs 44 1600 H H4 := by
    have t6 := hT4.2.2.2.2.2
    have t4 := hT4.2.2.2.1
    exact us3.tr t6 (by omega) (by omega)
  generalize hR1 : zRa R 3 v4 = R1 at D4 s4 hA4
  generalize hM1 : (fun i => if i = 3 then m4 else M i) = M1 at D4 s4
  have hR4 : zRm G H4 150 3300 := hR.us hus4 _ _ (by omega) (by omega)
  clear hR1 hM1 k1 k2 k3 hT4 hus4 h43
  refine sN_request_38 zRf_ref (by omega) (Nat.le_of_ble_eq_true rfl) D4.is (c_N_placeOfAnswer hC (by omega) D4 hA4 hw hD) ?_
  rintro q H5 ⟨rfl, rfl⟩ - - -
  by_cases hp : zFi (zAsp (zPl A)) D.1 < D.1.length
  · rw [if_pos hp]
    refine sN_request_43 (fun _ => ?_) (fun z => absurd z (nI_nm1 (by have := hD.2.1; omega)))
    have er : zReq D Q A = ((D.1, if (D.1[zFi (zAsp (zPl A)) D.1]).2.2.1.1 = [] then D.2.1 else zJput D.2.1 (A.1, (D.1[zFi (zAsp (zPl A)) D.1]).2.2.1.1, (D.1[zFi (zAsp (zPl A)) D.1]).2.2.1.2), if (D.1[zFi (zAsp (zPl A)) D.1]).2.1 = 0 then D.2.2.1 else zKput D.2.2.1 (D.1[zFi (zAsp (zPl A)) D.1], D.2.2.2 + (D.1[zFi (zAsp (zPl A)) D.1]).2.1), D.2.2.2), (Q.1 + 1, some A, zTell A.1 D.2.1), some (D.1[zFi (zAsp (zPl A)) D.1])) := by
      unfold zReq
      rw [List.getElem?_eq_getElem hp]
    have hX := hD.1 _ (List.getElem_mem hp)
    obtain ⟨-, -, ⟨vb4, cm4, fm4, wr4, wf4, hO4, hI4⟩, -, -, -, j6, j7, j8, j9⟩ := id D4
    refine sN_request_54 (hO4.fd rfl) (by omega) (Nat.le_of_ble_eq_true rfl) j6.is (v_get hC.1.1 (by omega) j6 hp) ?_
    rintro q H6 - ⟨y, rfl, hy, rfl⟩ - - -
    generalize hxx : D.1[zFi (zAsp (zPl A)) D.1] = X at er hy hX
    -- what is kept
    have keep : ∀ (H7 : Heap) (R2 : Nat → List Nat) (M2 : Nat → Nat) (cs : List zCk), zDk G K R2 M2 H7 T (D.1, cs, D.2.2) (Q.1 + 1, some A, zTell A.1 D.2.1) C → zAnO G (zRL R2) H7 y X → zOk G H7 → zRm G H7 40 1500 → zSx R M H R2 M2 1 3 H7 → (cs = if X.2.2.1.1 = [] then D.2.1 else zJput D.2.1 (A.1, X.2.2.1.1, X.2.2.1.2)) → zW G d M_N_request 102 [some (.ref (K 0)), some (.ref a), some (.int (nI (zFi (zAsp (zPl A)) D.1))), some (.ref y)] [] H7 (zPr fun k H1 => ∃ q R' M', k = .ref q ∧ zAnO G (zRL R') H1 q ((zReq D Q A).2.2.getD zEmp) ∧ zDk G K R' M' H1 T (zReq D Q A).1 (zReq D Q A).2.1 C ∧ zSx R M H R' M' 2 5 H1) := by
      intro H7 R2 M2 cs D7 hy7 ho7 hR7 s7 hcs
      obtain ⟨y0, y1, y2, p, n1, v1, c1, w1, g0, g1, g2, g3, g4, g5, g6, i0, i1, i2, i3, i4⟩ := id hy7
      rw [er]
      by_cases hage : X.2.1 = 0
      · rw [hage] at g1
        refine sN_request_102 g1 (fun _ => ?_) (fun z => absurd (by decide) z)
        rw [if_pos hage, ← hcs]
        exact sN_request_133 zRf_ref ⟨_, rfl, zRf_ref, y, R2, M2, rfl, hy7, D7, s7.le (by omega) (by omega)⟩
      · have hX2 := hX.2.1
        refine sN_request_102 g1 (fun z => absurd z (nI_nle (by omega) (by omega))) (fun _ => ?_)
        obtain ⟨l0, l1, ⟨vb7, cm7, fm7, wr7, wf7, hO7, hI7⟩, -, -, -, l6, l7, l8, l9⟩ := id D7
        refine sN_request_109 zRf_ref (hO7.fd rfl) (by have := hR7.1; omega) (by have := hR7.2; omega) (fun H8 b8 n8 => ?_)
        have ho8 := n8.ok (by have := hR7.1; omega) (by have := hR7.2; omega) ho7
        have D8 := D7.ex n8.mo ho7 ho8
        have hO8 := hO7.ex n8.mo
        have hnew : ∀ q ∈ H7.size :: zRL R2, q ∈ zRL R2 ∨ H7.size ≤ q := fun q z => by
          rcases List.mem_cons.mp z with rfl | z
          · exact Or.inr (Nat.le_refl _)
          · exact Or.inl z
        have hy8 : zAnO G (H7.size :: zRL R2) H8 y X := hy7.st n8.mo nS hnew
        refine sN_request_116 (hO8.fd rfl) (by obtain ⟨_, _, _, _, _, _, _, _, _, z, _⟩ := hy8; exact z) (by omega) (Nat.le_of_ble_eq_true rfl) (by rw [nI_add]; exact c_Kt_init hC (by omega) b8 (zFr_new ho7) (l0.1.new (Nat.le_refl _)) hy8) ?_
        rintro H9 ⟨b9, m9, u9⟩ ho9 hs9 -
        have mo9 : zMo [] H7 H9 := n8.mo.tr m9 (fun q z => by cases z) (fun q z => Or.inr (by rw [List.mem_singleton.mp z]; exact Nat.le_refl _))
        have us9 : zUs 1 2 H7 H9 := n8.us.tr u9 (by omega) (by omega)
        have D9 := D7.ex mo9 ho7 ho9
        obtain ⟨l0', l1', -, -, -, -, l6', l7', l8', l9'⟩ := id D9
        obtain ⟨f1, f2, f3, f4, f5, f6, f7, f8⟩ := l9'
        refine sN_request_130 zRf_ref (by omega) (Nat.le_of_ble_eq_true rfl) f5 (c_Kp_put hC (by omega) f5 f6 (fun z => f4 (zRL_mem (by omega) z)) l8' b9 hX l0'.1 (fun k hk => (hD.2.2.2.2.2.1 k hk).1) (by have := hD.2.2.2.2.2.2.1; show D.2.2.1.length ≤ 20; omega) (hR7.us us9 _ _ (by omega) (by omega))) ?_
        rintro H10 hv ho10 hs10 -
        obtain ⟨R3, m10, r1, r2, r3, r4, r5, r6⟩ := zVres.rs (R := R2) zKd_ke (by omega) hv ho10
        have D10 := D9.p6 r3 r1 ho9 ho10 r2
        rw [if_neg hage, ← hcs]
        refine sN_request_133 zRf_ref ⟨_, rfl, zRf_ref, y, R3, _, rfl, (hy7.st mo9 nS id').st r3 (fun q z => Or.inl (zRL_mem (by omega) z)) r1.L, D10, ?_⟩
        exact (s7.tr (zSx.ex mo9 us9) (cc := 2) (ss := 5) (by omega) (by omega)).tr (zSx.one (c := 6) (cc := 0) (ss := 0) (by omega) r1 r3 (by rw [zPh_6]; unfold zPh; omega) (by rw [zPh_6]; unfold zPh; exact r5.le (by omega) (by omega))) (by omega) (by omega)
    obtain ⟨y0, y1, y2, p, n1, v1, c1, w1, g0, g1, g2, g3, g4, g5, g6, i0, i1, i2, i3, i4⟩ := id hy
    refine sN_request_62 y2 g2 (by omega) (Nat.le_of_ble_eq_true rfl) i1.is (c_St_isEmpty hC.1.1 i1) ?_
    rintro q H7 ⟨rfl, rfl⟩ - - -
    by_cases hnm : X.2.2.1.1 = []
    · rw [if_pos hnm]
      refine sN_request_73 (fun _ => ?_) (fun z => absurd z (by decide))
      refine keep H7 R1 M1 D.2.1 D4 hy ho4 (hR4.le _ _ (by omega) (by omega)) (s4.le (by omega) (by omega)) (by rw [if_pos hnm])
    · rw [if_neg hnm]
      refine sN_request_73 (fun z => absurd rfl z) (fun _ => ?_)
      obtain ⟨l0, l1, -, -, -, -, -, l7, -, l9⟩ := id D4
      refine sN_request_76 zRf_ref (hO4.fd rfl) (by have := hR4.1; omega) (by have := hR4.2; omega) (fun H8 b8 n8 => ?_)
      have ho8 := n8.ok (by have := hR4.1; omega) (by have := hR4.2; omega) ho4
      have hnew : ∀ q ∈ H7.size :: zRL R1, q ∈ zRL R1 ∨ H7.size ≤ q := fun q z => by
        rcases List.mem_cons.mp z with rfl | z
        · exact Or.inr (Nat.le_refl _)
        · exact Or.inl z
      have hy8 : zAnO G (H7.size :: zRL R1) H8 y X := hy.st n8.mo nS hnew
      have hA8 : zAd G (H7.size :: zRL R1) H8 a A := hA4.st n8.mo nS hnew
      obtain ⟨-, -, -, p', n1', v1', c1', w1', g0', g1', g2', g3', g4', g5', g6', i0', i1', i2', i3', i4'⟩ := id hy8
      obtain ⟨-, -, cs', cp', cq', ck', a3', a4', a5', a6', a7', a8', a9', a10'⟩ := id hA8
      refine sN_request_83 zRf_ref zRf_ref zRf_ref a3' g2' g3' (by omega) (Nat.le_of_ble_eq_true rfl) (c_Ck_init hC (by omega) b8 (zFr_new ho4) (l0.1.new (Nat.le_refl _)) a7' i1' i2') ?_
      rintro H9 ⟨b9, m9, u9⟩ ho9 hs9 -
      have mo9 : zMo [] H7 H9 := n8.mo.tr m9 (fun q z => by cases z) (fun q z => Or.inr (by rw [List.mem_singleton.mp z]; exact Nat.le_refl _))
      have us9 : zUs 1 3 H7 H9 := n8.us.tr u9 (by omega) (by omega)
      have D9 := D4.ex mo9 ho4 ho9
      obtain ⟨l0', l1', -, -, -, -, -, l7', -, l9'⟩ := id D9
      obtain ⟨f1, f2, f3, f4, f5, f6, f7, f8⟩ := l9'
      refine sN_request_99 zRf_ref (by omega) (Nat.le_of_ble_eq_true rfl) f2 (c_Jr_put hC (by omega) f3 (fun z => f1 (zRL_mem (by omega) z)) l7' b9 l0'.1 hD.2.2.2.2.1 (hR4.us us9 _ _ (by omega) (by omega))) ?_
      rintro H10 hv ho10 hs10 -
      obtain ⟨R3, m10, r1, r2, r3, r4, r5, r6⟩ := zVres.rs (R := R1) zKd_ck (by omega) hv ho10
      have D10 := D9.p5 r3 r1 ho9 ho10 r2
      refine keep H10 R3 _ _ D10 ((hy.st mo9 nS id').st r3 (fun q z => Or.inl (zRL_mem (by omega) z)) r1.L) ho10 (hR4.us (us9.tr r5 (c := 61) (s := 243) (by omega) (by omega)) _ _ (by omega) (by omega)) ?_ (by rw [if_neg hnm])
      exact (s4.tr (zSx.ex mo9 us9) (cc := 1) (ss := 3) (by omega) (by omega)).tr (zSx.one (c := 5) (cc := 0) (ss := 0) (by omega) r1 r3 (by rw [zPh_5]; unfold zPh; omega) (by rw [zPh_5]; unfold zPh; exact r5.le (by omega) (by omega))) (by omega) (by omega)
  · rw [if_neg hp]
    have er : zReq D Q A = (D, (Q.1 + 1, some A, zTell A.1 D.2.1), none) := by
      unfold zReq
      rw [List.getElem?_eq_none (by omega)]
    refine sN_request_43 (fun z => absurd rfl z) (fun _ => ?_)
    obtain ⟨-, -, ⟨vb4, cm4, fm4, wr4, wf4, hO4, hI4⟩, -, -, -, j6, j7, j8, j9⟩ := id D4
    rw [er]
    exact sN_request_49 zRf_ref (hO4.fd rfl) ⟨_, rfl, zRf_ref, K 10, R1, M1, rfl, j9.2.2.2.2.2.2.2, D4, s4.le (by omega) (by omega)⟩
theorem c_N_answerFrom (hC : zCv G) (hd : 10 ≤ d) (h : zDk G K R M H T D Q C) (hA : zAd G (zRL R) H a A) (hw : zWf A) (hD : zDDW D) (hN : zDN D) (hR : zRm G H 200 5000) : zC G d M_N_answerFrom [.ref (K 0), .ref a] H (zPr fun k H1 => ∃ q R' M', k = .ref q ∧ zAnO G (zRL R') H1 q ((zAsk D Q A).2.2.1.getD zEmp) ∧ zDk G K R' M' H1 T (zAsk D Q A).1 (zAsk D Q A).2.1 (C.1, C.2.1, C.2.2.1, C.2.2.2.1, (zAsk D Q A).2.2.2) ∧ zSx R M H R' M' 2 5 H1) := by
  obtain ⟨h0, h1, ⟨vb, cm, fm, wr, wf, hO, hI⟩, h3, h4, h5, h6, h7, h8, h9⟩ := id h
  obtain ⟨f1, f2, f3, f4, f5, f6, f7, f8⟩ := h9
  have id' : ∀ {L : List Nat} {Hx : Heap}, ∀ q ∈ L, q ∈ L ∨ Hx.size ≤ q := fun q z => Or.inl z
  have hS0 : ∀ {Hx : Heap}, ∀ q ∈ [K 0], q ∈ zRL R ∨ Hx.size ≤ q := fun q z => Or.inl (by rw [List.mem_singleton.mp z]; exact zRL_mem (by omega) h1)
  refine zC_in [some (.ref (K 0)), some (.ref a), none] pn_N_answerFrom hC.1.1.1 rfl (Nat.le_of_ble_eq_true rfl) rfl (fun ho => ?_)
  refine sN_answerFrom_0 zRf_ref (hO.fd rfl) (hO.fd rfl) (by omega) (Nat.le_of_ble_eq_true rfl) f5 (c_Kp_fresh hC (by omega) f5 f6 h8 hA hw (fun k hk => (hD.2.2.2.2.2.1 k hk).1) (by have := hD.2.2.2.2.2.2.1; show D.2.2.1.length ≤ 20; omega) (by have := hN.1; omega) hN.2) ?_
  rintro q H1 hq ⟨r1, r2, rfl⟩ - - -
  cases hz : zFresh D.2.2.1 (zPl A) D.2.2.2 with
  | some α =>
    obtain ⟨y, rfl, hy⟩ := r2 α hz
    have er : zAsk D Q A = (D, Q, some α, true) := by unfold zAsk; rw [hz]
    refine sN_answerFrom_12 zRf_ref zRf_ref (fun z => by cases z) (fun _ _ => ?_)
    refine sN_answerFrom_18 hO h.fr rfl rfl (fun H2 g2 u2 => ?_)
    have ho2 := u2.ok h.fr ho
    refine sN_answerFrom_26 zRf_ref (fun z => by cases z) (fun _ _ => ?_)
    have D2 := h.px u2 ho ho2 (b := T.2.2) (clk := D.2.2.2) (rq := Q.1) (ra := Q.2.1) (C' := (C.1, C.2.1, C.2.2.1, C.2.2.2.1, true)) ⟨vb, cm, fm, wr, wf, g2, hI.st u2.mo hS0 id'⟩
    rw [er]
    exact sN_answerFrom_30 zRf_ref ⟨_, rfl, zRf_ref, y, R, M, rfl, hy.st u2.mo hS0 id', D2, zSx.one (c := 0) (by omega) zRs.rf (u2.mo.mono (fun q z => Or.inl (by rw [List.mem_singleton.mp z]; exact h1))) (Nat.le_refl _) u2.us⟩
  | none =>
    have := r1 hz
    subst this
    have er : zAsk D Q A = ((zReq D Q A).1, (zReq D Q A).2.1, (zReq D Q A).2.2, false) := by unfold zAsk; rw [hz]
    refine sN_answerFrom_12 zRf_null zRf_ref (fun _ => ?_) (fun _ z => by cases z)
    refine sN_answerFrom_22 hO h.fr rfl rfl (fun H2 g2 u2 => ?_)
    have ho2 := u2.ok h.fr ho
    refine sN_answerFrom_26 zRf_null (fun _ => ?_) (fun _ z => by cases z)
    have D2 : zDk G K R M H2 T D Q (C.1, C.2.1, C.2.2.1, C.2.2.2.1, false) := h.px u2 ho ho2 (b := T.2.2) (clk := D.2.2.2) (rq := Q.1) (ra := Q.2.1) (C' := (C.1, C.2.1, C.2.2.1, C.2.2.2.1, false)) ⟨vb, cm, fm, wr, wf, g2, hI.st u2.mo hS0 id'⟩
    have s2 : zSx R M H1 R M 0 0 H2 := zSx.one (c := 0) (by omega) zRs.rf (u2.mo.mono (fun q z => Or.inl (by rw [List.mem_singleton.mp z]; exact h1))) (Nat.le_refl _) u2.us
    refine sN_answerFrom_32 zRf_ref (by omega) (Nat.le_of_ble_eq_true rfl) D2.is (c_N_request hC (by omega) D2 (hA.mo u2.mo hS0) hw hD hN (hR.us (c1 := 0) (s1 := 0) u2.us _ _ (by omega) (by omega))) ?_
    rintro q H3 hq3 ⟨y, R', M', rfl, hy, D3, s3⟩ ho3 hs3 -
    rw [er]
    exact sN_answerFrom_37 zRf_ref ⟨_, rfl, zRf_ref, y, R', M', rfl, hy, D3, s2.tr s3 (by omega) (by omega)⟩
theorem zDk.ph (h : zDk G K R M H T D Q C) : zPh M ≤ 27000 := by
  obtain ⟨-, -, -, ⟨-, -, a1, -⟩, ⟨-, -, a2, -⟩, ⟨-, -, a3, -⟩, ⟨-, -, _, _, -, -, a4, -⟩, ⟨-, -, _, _, -, -, a5, -⟩, ⟨-, -, _, _, -, -, a6, -⟩, -⟩ := h
  have b4 := a4.2.2.2.2.2.2.2
  have b5 := a5.2.2.2.2.2.2.2
  have b6 := a6.2.2.2.2.2.2.2
  unfold zPh
  omega
def zBump (k : Nat) (g : zDD × zRR × zAn × zA × Nat × Bool) : zDD × zRR × zAn × zA × Nat × Bool := (g.1, g.2.1, g.2.2.1, g.2.2.2.1, g.2.2.2.2.1 + k, g.2.2.2.2.2)
theorem getD_to (x : Option zAn) : (x.getD zEmp).2.2.2.1 = zToOf x := by cases x <;> rfl
theorem c_N_follow (hC : zCv G) (hd : 11 ≤ d) (h : zDk G K R M H T D Q C) (hA : zAd G (zRL R) H a A) (hw : zWf A) (hD : zDDW D) (hN : zDN D) (hR : zRm G H 28000 114000) : zC G d M_N_follow [.ref (K 0), .ref a] H (zPv fun H1 => ∃ R' M', zDk G K R' M' H1 T (zGoo 5 D Q A).1 (zGoo 5 D Q A).2.1 ((zGoo 5 D Q A).2.2.1, some (zGoo 5 D Q A).2.2.2.1, A.2.2.2, (zGoo 5 D Q A).2.2.2.2.1, (zGoo 5 D Q A).2.2.2.2.2) ∧ zSx R M H R' M' 12 30 H1) := by
  have id' : ∀ {L : List Nat} {Hx : Heap}, ∀ q ∈ L, q ∈ L ∨ Hx.size ≤ q := fun q z => Or.inl z
  have hS0 : ∀ {R' : Nat → List Nat} {Hx : Heap}, K 0 ∈ R' 0 → ∀ q ∈ [K 0], q ∈ zRL R' ∨ Hx.size ≤ q := fun hk q z => Or.inl (by rw [List.mem_singleton.mp z]; exact zRL_mem (by omega) hk)
  have stp : ∀ {R' R2 : Nat → List Nat} {M' M2 : Nat → Nat} {Ha Hb : Heap} {cc ss : Nat}, zSx R' M' Ha R2 M2 cc ss Hb → (∀ q ∈ zRL R2, q ∈ zRL R' ∨ Ha.size ≤ q) ∧ zMo (zRL R') Ha Hb := fun {R' R2 M' M2 Ha Hb cc ss} s => by
    refine ⟨fun q z => ?_, s.2.2.1.mono (fun q z => Or.inl (zR6_L z))⟩
    obtain ⟨i, hi, hq⟩ := zRL_of z
    by_cases e : i = 7
    · subst e
      rw [s.2.1] at hq
      exact Or.inl (zRL_mem (by omega) hq)
    · rcases s.1 q (zR6_mem (by omega) hq) with w | w
      · exact Or.inl (zR6_L w)
      · exact Or.inr w
  -- the end
  have fin : ∀ (H' : Heap) (R' : Nat → List Nat) (M' : Nat → Nat) (D' : zDD) (Q' : zRR) (k : Nat) (kp : Bool) (b y : Nat) (B : zA) (α β : zAn) (i : Int32), zDk G K R' M' H' T D' Q' (C.1, C.2.1, C.2.2.1, k, kp) → zAd G (zRL R') H' b B → zAnO G (zRL R') H' y α → zAd G (zRL R') H' a A → β = (if α.2.2.2.1.isNone = true then α else zEmp) → zSx R M H R' M' 12 30 H' → zOk G H' → zGoo 5 D Q A = (D', Q', β, B, k, kp) → zW G d M_N_follow 56 [some (.ref (K 0)), some (.ref a), some (.ref b), some (.ref y), some (.int i)] [] H' (zPv fun H1 => ∃ R' M', zDk G K R' M' H1 T (zGoo 5 D Q A).1 (zGoo 5 D Q A).2.1 ((zGoo 5 D Q A).2.2.1, some (zGoo 5 D Q A).2.2.2.1, A.2.2.2, (zGoo 5 D Q A).2.2.2.2.1, (zGoo 5 D Q A).2.2.2.2.2) ∧ zSx R M H R' M' 12 30 H1) := by
    intro H' R' M' D' Q' k kp b y B α β i Dk hb hy ha hβ s' ho' hg
    obtain ⟨h0, h1, ⟨vb, cm, fm, wr, wf, hO, hI⟩, h3, h4, h5, h6, h7, h8, h9⟩ := id Dk
    obtain ⟨y0, y1, y2, p, n1, v1, c1, w1, g0, g1, g2, g3, g4, g5, g6, i0, i1, i2, i3, i4⟩ := id hy
    have hS := hS0 (R' := R') (Hx := H') h1
    -- behind the store of what came
    have tail : ∀ (H2 : Heap) (z : Nat), zObj G H2 (K 0) 0 (zXv K vb z fm wr wf D'.2.2.2 Q'.1 k kp) → zUp (K 0) H' H2 → zAnO G (zRL R') H' z β → zW G d M_N_follow 75 [some (.ref (K 0)), some (.ref a), some (.ref b), some (.ref y), some (.int i)] [] H2 (zPv fun H1 => ∃ R' M', zDk G K R' M' H1 T (zGoo 5 D Q A).1 (zGoo 5 D Q A).2.1 ((zGoo 5 D Q A).2.2.1, some (zGoo 5 D Q A).2.2.2.1, A.2.2.2, (zGoo 5 D Q A).2.2.2.2.1, (zGoo 5 D Q A).2.2.2.2.2) ∧ zSx R M H R' M' 12 30 H1) := by
      intro H2 z o2 u2 hz
      refine sN_follow_75 zRf_ref o2 Dk.fr (fun H3 o3 u3 => ?_)
      have m3 : zMo [K 0] H' H3 := u2.mo.up u3 (Or.inl mem1)
      have ha3 := ha.mo m3 hS
      obtain ⟨a1, a2, cs, cp, cq, ck, a3, a4, a5, a6, a7, a8, a9, a10⟩ := id ha3
      refine sN_follow_80 zRf_ref a6 o3 Dk.fr (fun H4 o4 u4 => ?_)
      have m4 : zMo [K 0] H' H4 := m3.up u4 (Or.inl mem1)
      have up4 : zUp (K 0) H' H4 := ⟨u4.1.trans (u3.1.trans u2.1), u4.2.1.trans (u3.2.1.trans u2.2.1), fun q hq => (u4.2.2 q hq).trans ((u3.2.2 q hq).trans (u2.2.2 q hq))⟩
      have ho4 := up4.ok Dk.fr ho'
      have a10' := a10.mo u4.mo (hS0 (R' := R') (Hx := H3) h1)
      have D4 := Dk.px up4 ho' ho4 (b := T.2.2) (clk := D'.2.2.2) (rq := Q'.1) (ra := Q'.2.1) (C' := (β, some B, A.2.2.2, k, kp)) ⟨vb, z, ck, wr, .ref b, o4, hI.1.mo m4 hS, hI.2.1.st m4 hS id', hz.st m4 hS id', zOa.some (hb.mo m4 hS), a10'⟩
      rw [hg]
      exact sN_follow_88 ⟨rfl, R', M', D4, s'.tr (zSx.one (c := 0) (R := R') (R' := R') (M := M') (M' := M') (cc := 0) (ss := 0) (by omega) zRs.rf (up4.mo.mono (fun q z => Or.inl (by rw [List.mem_singleton.mp z]; exact h1))) (Nat.le_refl _) up4.us) (by omega) (by omega)⟩
    cases hT : α.2.2.2.1 with
    | none =>
      rw [hT] at hβ i3
      have hw1 := i3.1 rfl
      subst hw1
      have hβ' : β = α := hβ
      refine sN_follow_56 zRf_ref zRf_null g4 (fun _ z => by cases z) (fun _ => ?_)
      refine sN_follow_64 zRf_ref hO Dk.fr (fun H2 o2 u2 => ?_)
      exact tail H2 y o2 u2 (by rw [hβ']; exact hy)
    | some b0 =>
      rw [hT] at hβ i3
      obtain ⟨q, rfl, _⟩ := i3.2 b0 rfl
      have hβ' : β = zEmp := hβ
      refine sN_follow_56 zRf_ref zRf_ref g4 (fun _ _ => ?_) (fun z => by cases z)
      refine sN_follow_68 zRf_ref (hO.fd rfl) hO Dk.fr (fun H2 o2 u2 => ?_)
      exact tail H2 (K 10) o2 u2 (by rw [hβ']; exact h9.2.2.2.2.2.2.2)
  -- n more may be followed
  have main : ∀ (n : Nat) (H' : Heap) (R' : Nat → List Nat) (M' : Nat → Nat) (r : zDD × zRR × Option zAn × Bool) (b y : Nat) (B : zA), n ≤ 5 → zDk G K R' M' H' T r.1 r.2.1 (C.1, C.2.1, C.2.2.1, 5 - n, r.2.2.2) → zAd G (zRL R') H' b B → zWf B → zAnO G (zRL R') H' y (r.2.2.1.getD zEmp) → (∀ x, r.2.2.1 = some x → zAnW x) → zDDW r.1 → zDN r.1 → zAd G (zRL R') H' a A → zSx R M H R' M' (12 - 2 * n) (30 - 5 * n) H' → zOk G H' → zGoo 5 D Q A = zBump (5 - n) (zAft n r B) → zW G d M_N_follow 16 [some (.ref (K 0)), some (.ref a), some (.ref b), some (.ref y), some (.int (nI (5 - n)))] [] H' (zPv fun H1 => ∃ R' M', zDk G K R' M' H1 T (zGoo 5 D Q A).1 (zGoo 5 D Q A).2.1 ((zGoo 5 D Q A).2.2.1, some (zGoo 5 D Q A).2.2.2.1, A.2.2.2, (zGoo 5 D Q A).2.2.2.2.1, (zGoo 5 D Q A).2.2.2.2.2) ∧ zSx R M H R' M' 12 30 H1) := by
    intro n
    induction n with
    | zero =>
      intro H' R' M' r b y B hn Dk hb hwB hy hans hDW hDN ha s' ho' hg
      refine sN_follow_16 (fun _ => ?_) (fun z => absurd (by decide) z)
      refine fin H' R' M' r.1 r.2.1 5 r.2.2.2 b y B (r.2.2.1.getD zEmp) _ _ Dk hb hy ha rfl (s'.le (by omega) (by omega)) ho' ?_
      rw [hg, getD_to]
      unfold zAft zBump
      cases zToOf r.2.2.1 with
      | none => rfl
      | some b => rfl
    | succ n ih =>
      intro H' R' M' r b y B hn Dk hb hwB hy hans hDW hDN ha s' ho' hg
      obtain ⟨y0, y1, y2, p, n1, v1, c1, w1, g0, g1, g2, g3, g4, g5, g6, i0, i1, i2, i3, i4⟩ := id hy
      rw [getD_to] at i3
      refine sN_follow_16 (fun z => absurd z (nI_ge (b := 5) (by omega) (by decide))) (fun _ => ?_)
      cases hT : zToOf r.2.2.1 with
      | none =>
        rw [hT] at i3
        have hw1 := i3.1 rfl
        subst hw1
        refine sN_follow_22 zRf_null g4 (fun _ => ?_) (fun _ z => by cases z)
        refine fin H' R' M' r.1 r.2.1 (5 - (n + 1)) r.2.2.2 b y B (r.2.2.1.getD zEmp) _ _ Dk hb hy ha rfl (s'.le (by omega) (by omega)) ho' ?_
        rw [hg, getD_to, hT]
        unfold zAft zBump
        rw [hT]
        show (r.1, r.2.1, r.2.2.1.getD zEmp, B, 0 + (5 - (n + 1)), r.2.2.2) = _
        rw [Nat.zero_add]
        rfl
      | some B2 =>
        rw [hT] at i3
        obtain ⟨q2, rfl, hq2⟩ := i3.2 B2 rfl
        have hwB2 : zWf B2 := by
          unfold zToOf at hT
          cases e2 : r.2.2.1 with
          | none => rw [e2] at hT; cases hT
          | some x => rw [e2] at hT; exact (hans x e2).2.2.2.1 B2 hT
        have hph := Dk.ph
        have us' := s'.2.2.2.2
        refine sN_follow_22 zRf_ref g4 (fun z => by cases z) (fun _ _ => ?_)
        refine sN_follow_29 zRf_ref g4 (by omega) (Nat.le_of_ble_eq_true rfl) Dk.is (c_N_answerFrom hC (by omega) Dk hq2 hwB2 hDW hDN (hR.us us' _ _ (by omega) (by omega))) ?_
        rintro q H2 hq ⟨y', R2, M2, rfl, hy2, D2, s2⟩ ho2 hs2 -
        obtain ⟨st1, st2⟩ := stp s2
        have inL : ∀ q ∈ zRL R', q ∈ zRL R' ∨ H'.size ≤ q := fun q z => Or.inl z
        obtain ⟨h0, h1, ⟨vb, cm, fm, wr, wf, hO, hI⟩, -⟩ := id D2
        refine sN_follow_39 zRf_ref (hO.fd rfl) hO D2.fr (fun H3 o3 u3 => ?_)
        rw [nI_1] at o3
        have ho3 := u3.ok D2.fr ho2
        have hS := hS0 (R' := R2) (Hx := H2) h1
        have D3 := D2.px u3 ho2 ho3 (b := T.2.2) (clk := (zAsk r.1 r.2.1 B2).1.2.2.2) (rq := (zAsk r.1 r.2.1 B2).2.1.1) (ra := (zAsk r.1 r.2.1 B2).2.1.2.1) (C' := (C.1, C.2.1, C.2.2.1, 5 - (n + 1) + 1, (zAsk r.1 r.2.1 B2).2.2.2)) ⟨vb, cm, fm, wr, wf, o3, hI.st u3.mo hS id'⟩
        rw [show 5 - (n + 1) + 1 = 5 - n by omega] at D3
        refine sN_follow_50 ?_
        rw [nI_1, show 5 - (n + 1) + 1 = 5 - n by omega]
        obtain ⟨w1, w2⟩ := zAsk_w (R := r.2.1) hDW hwB2
        obtain ⟨w3, -, -⟩ := zAsk_n (R := r.2.1) (a := B2) hDW hDN
        refine ih H3 R2 M2 (zAsk r.1 r.2.1 B2) q2 y' B2 (by omega) D3 ((hq2.st st2 inL st1).mo u3.mo hS) hwB2 (hy2.st u3.mo hS id') w2 w1 w3 ((ha.st st2 inL st1).mo u3.mo hS) ?_ ho3 ?_
        · exact (s'.tr s2 (cc := 12 - 2 * n) (ss := 30 - 5 * n) (by omega) (by omega)).tr (zSx.one (c := 0) (R := R2) (R' := R2) (M := M2) (M' := M2) (cc := 0) (ss := 0) (by omega) zRs.rf (u3.mo.mono (fun q z => Or.inl (by rw [List.mem_singleton.mp z]; exact h1))) (Nat.le_refl _) u3.us) (by omega) (by omega)
        · rw [hg, ← zGoo_aft]
          unfold zAft zBump
          rw [hT]
          show (_, _, _, _, (zGoo n r.1 r.2.1 B2).2.2.2.2.1 + 1 + (5 - (n + 1)), _) = (_, _, _, _, (zGoo n r.1 r.2.1 B2).2.2.2.2.1 + (5 - n), _)
          rw [show (zGoo n r.1 r.2.1 B2).2.2.2.2.1 + 1 + (5 - (n + 1)) = (zGoo n r.1 r.2.1 B2).2.2.2.2.1 + (5 - n) by omega]
  refine zC_in [some (.ref (K 0)), some (.ref a), none, none, none] pn_N_follow hC.1.1.1 rfl (Nat.le_of_ble_eq_true rfl) rfl (fun ho => ?_)
  refine sN_follow_0 zRf_ref (by omega) (Nat.le_of_ble_eq_true rfl) h.is (c_N_answerFrom hC (by omega) h hA hw hD hN (hR.le _ _ (by omega) (by omega))) ?_
  rintro q H1 hq ⟨y, R1, M1, rfl, hy, D1, s1⟩ ho1 hs1 -
  obtain ⟨st1, st2⟩ := stp s1
  have inL : ∀ q ∈ zRL R, q ∈ zRL R ∨ H.size ≤ q := fun q z => Or.inl z
  obtain ⟨h0, h1, ⟨vb, cm, fm, wr, wf, hO, hI⟩, -⟩ := id D1
  refine sN_follow_7 zRf_ref hO D1.fr (fun H2 o2 u2 => ?_)
  have ho2 := u2.ok D1.fr ho1
  have hS := hS0 (R' := R1) (Hx := H1) h1
  have D2 := D1.px u2 ho1 ho2 (b := T.2.2) (clk := (zAsk D Q A).1.2.2.2) (rq := (zAsk D Q A).2.1.1) (ra := (zAsk D Q A).2.1.2.1) (C' := (C.1, C.2.1, C.2.2.1, 0, (zAsk D Q A).2.2.2)) ⟨vb, cm, fm, wr, wf, o2, hI.st u2.mo hS id'⟩
  refine sN_follow_13 ?_
  obtain ⟨w1, w2⟩ := zAsk_w (R := Q) hD hw
  obtain ⟨w3, -, -⟩ := zAsk_n (R := Q) (a := A) hD hN
  refine main 5 H2 R1 M1 (zAsk D Q A) a y A (Nat.le_refl _) D2 ((hA.st st2 inL st1).mo u2.mo hS) hw (hy.st u2.mo hS id') w2 w1 w3 ((hA.st st2 inL st1).mo u2.mo hS) ?_ ho2 ?_
  · exact s1.tr (zSx.one (c := 0) (R := R1) (R' := R1) (M := M1) (M' := M1) (cc := 0) (ss := 0) (by omega) zRs.rf (u2.mo.mono (fun q z => Or.inl (by rw [List.mem_singleton.mp z]; exact h1))) (Nat.le_refl _) u2.us) (by omega) (by omega)
  · rw [zGoo_aft]
    rfl
theorem c_N_fetch (hC : zCv G) (hd : 12 ≤ d) (h : zDk G K R M H T D Q C) (hn : T.1.length ≤ 2000) (hw : zWf T.2.2) (hD : zDDW D) (hN : zDN D) (hR : zRm G H (4 * T.1.length + 28400) (40 * T.1.length + 119000)) : zC G d M_N_fetch [.ref (K 0)] H (zPost G K R M H (oTx oFetch T D Q C) (4 * T.1.length + 74) (25 * T.1.length + 1234)) := by
  refine zC_in [some (.ref (K 0)), none, none, none] pn_N_fetch hC.1.1.1 rfl (Nat.le_of_ble_eq_true rfl) rfl (fun ho => ?_)
  refine sN_fetch_0 (by omega) (Nat.le_of_ble_eq_true rfl) h.is (c_N_takeText hC (by omega) h hn (hR.le _ _ (by omega) (by omega))) ?_
  rintro q H1 - ⟨a, rfl, x1, D1, s1⟩ ho1 hs1 -
  have hl := x1.le
  have htw := tw_le zOkc T.1
  refine sN_fetch_4 zRf_ref (by omega) (Nat.le_of_ble_eq_true rfl) (c_Tx_badByte hC.1.1 (by omega) x1) ?_
  rintro q H2 ⟨rfl, rfl⟩ - - -
  unfold oTx
  by_cases e : zTw zOkc T.1 < T.1.length
  · rw [if_pos e, if_pos e]
    exact sN_fetch_9 (fun z => absurd z (nI_nm1 (by omega))) (fun _ => sN_fetch_15 (zPost.from rfl D1 (s1.le (by omega) (by omega))))
  · rw [if_neg e, if_neg e]
    refine sN_fetch_9 (fun _ => ?_) (fun z => absurd rfl z)
    obtain ⟨h0, h1, ⟨vb, cm, fm, wr, wf, hO, hI1, hI2, hI3, hI4, hI5⟩, h3⟩ := id D1
    have hus1 := s1.2.2.2.2
    rw [Nat.sub_self] at hus1
    refine sN_fetch_21 zRf_ref zRf_ref (hO.fd rfl) (by omega) (Nat.le_of_ble_eq_true rfl) (c_Ad_read hC (by omega) x1 hI1 hw h0.1 hn (hR.us hus1 _ _ (by omega) (by omega))) ?_
    rintro q H3 hq ⟨r1, r2, m3, u3⟩ ho3 hs3 -
    have s3 : zSx R M H R M (4 * T.1.length + 62) (25 * T.1.length + 1204) H3 := s1.tr (zSx.ex m3 u3) (by omega) (by omega)
    have D3 := D1.ex m3 ho1 ho3
    unfold oFetch
    cases hz : zRead T.1 T.2.2 with
    | none =>
      have := r1 hz
      subst this
      exact sN_fetch_29 zRf_null (fun _ z => by cases z) (fun _ => sN_fetch_34 (zPost.from rfl D3 (s3.le (by omega) (by omega))))
    | some A =>
      obtain ⟨cA, rfl, hA⟩ := r2 A hz
      have hwA := zRead_wf hw hz
      refine sN_fetch_29 zRf_ref (fun _ _ => ?_) (fun z => by cases z)
      have hus3 := s3.2.2.2.2
      rw [Nat.sub_self] at hus3
      refine sN_fetch_36 zRf_ref (by omega) (Nat.le_of_ble_eq_true rfl) D3.is (c_N_follow hC (by omega) D3 hA hwA hD hN (hR.us hus3 _ _ (by omega) (by omega))) ?_
      rintro H4 ⟨R', M', D4, s4⟩ ho4 hs4 -
      obtain ⟨-, -, ⟨vb4, cm4, fm4, wr4, wf4, hO4, hJ1, hJ2, hJ3, hJ4, hJ5⟩, -⟩ := id D4
      obtain ⟨y0, y1, y2, p, n1, v1, c1, w1, g0, g1, g2, g3, g4, g5, g6, i0, i1, i2, i3, i4⟩ := id hJ3
      refine sN_fetch_41 (hO4.fd rfl) g6 (by omega) (Nat.le_of_ble_eq_true rfl) i4.is (c_St_length hC.1.1 (by omega) i4) ?_
      rintro q H5 ⟨rfl, rfl⟩ - - -
      exact sN_fetch_51 (zPost.from rfl D4 (s3.tr s4 (by omega) (by omega)))
theorem c_N_server (hC : zCv G) (hd : 13 ≤ d) (h : zDk G K R M H T D Q C) (hn : T.1.length ≤ 2000) (hD : zDDW D) (hR : zRm G H (22 * T.1.length + 800) (135 * T.1.length + 8400)) : zC G d M_N_server [.ref (K 0)] H (zPost G K R M H (oTx oServer T D Q C) (18 * T.1.length + 230) (91 * T.1.length + 3930)) := by
  have nS : ∀ {L : List Nat} {Hx : Heap}, ∀ q ∈ ([] : List Nat), q ∈ L ∨ Hx.size ≤ q := fun q z => by cases z
  have id' : ∀ {L : List Nat} {Hx : Heap}, ∀ q ∈ L, q ∈ L ∨ Hx.size ≤ q := fun q z => Or.inl z
  refine zC_in [some (.ref (K 0)), none, none, none, none, none, none] pn_N_server hC.1.1.1 rfl (Nat.le_of_ble_eq_true rfl) rfl (fun ho => ?_)
  refine sN_server_0 (by omega) (Nat.le_of_ble_eq_true rfl) h.is (c_N_takeText hC (by omega) h hn (hR.le _ _ (by omega) (by omega))) ?_
  rintro q H1 - ⟨a, rfl, x1, D1, s1⟩ ho1 hs1 -
  have hl := x1.le
  have htw := tw_le zOkc T.1
  refine sN_server_4 zRf_ref (by omega) (Nat.le_of_ble_eq_true rfl) (c_Tx_badByte hC.1.1 (by omega) x1) ?_
  rintro q H2 ⟨rfl, rfl⟩ - - -
  unfold oTx
  by_cases e : zTw zOkc T.1 < T.1.length
  · rw [if_pos e, if_pos e]
    exact sN_server_9 (fun z => absurd z (nI_nm1 (by omega))) (fun _ => sN_server_15 (zPost.from rfl D1 (s1.le (by omega) (by omega))))
  rw [if_neg e, if_neg e]
  refine sN_server_9 (fun _ => ?_) (fun z => absurd rfl z)
  have us1 := s1.2.2.2.2
  rw [Nat.sub_self] at us1
  obtain ⟨h0, h1, ⟨vb, cm, fm, wr, wf, hO, hI⟩, h3, h4, h5, h6, h7, h8, h9⟩ := id D1
  have r1 := hR.us us1 (22 * T.1.length + 790) (134 * T.1.length + 8390) (by omega) (by omega)
  refine sN_server_21 (by have := r1.1; omega) (by have := r1.2; omega) (fun H3 b3 n3 => ?_)
  have ho3 := n3.ok (by have := r1.1; omega) (by have := r1.2; omega) ho1
  have e3 : H3.size = H2.size + 1 := n3.1
  have hnew : ∀ q ∈ H2.size :: zRL R, q ∈ zRL R ∨ H2.size ≤ q := fun q z => by
    rcases List.mem_cons.mp z with rfl | z
    · exact Or.inr (Nat.le_refl _)
    · exact Or.inl z
  have hL3 : zLi G H3 (H2.size :: zRL R) := fun q z => by
    rcases List.mem_cons.mp z with rfl | z
    · exact ⟨zFr_new ho1, (by omega)⟩
    · exact (h0.1.mo n3.mo.1) q z
  have x3 : zTx G (H2.size :: zRL R) H3 a T.1 := x1.st n3.mo nS hnew
  have hom : zAd G (H2.size :: zRL R) H3 (K 9) zHome := h9.2.2.2.2.2.2.1.st n3.mo nS hnew
  refine sN_server_24 zRf_ref zRf_ref ((hO.ex n3.mo).fd rfl) (by omega) (Nat.le_of_ble_eq_true rfl) (c_Sv_init hC (by omega) b3 (zFr_new ho1) List.mem_cons_self x3 hom hL3 (r1.us n3.us _ _ (by omega) (by omega))) ?_
  rintro H4 ⟨v4, m4, u4⟩ ho4 hs4 -
  have hfl := v4.2.2.1
  have hL4 : zLi G H4 (H3.size :: H2.size :: zRL R) := fun q z => by
    rcases List.mem_cons.mp z with rfl | z
    · obtain ⟨z0, _, _, _, z1, _⟩ := hfl
      exact ⟨z0, z1.lt⟩
    · exact (hL3.mo hs4) q z
  have us4 : zUs 2 10 H2 H4 := n3.us.tr u4 (by omega) (by omega)
  have r4 := r1.us us4 (22 * T.1.length + 780) (134 * T.1.length + 8380) (by omega) (by omega)
  have mo4 : zMo [] H2 H4 := n3.mo.tr m4 (fun q z => by cases z) (fun q z => Or.inr (by rw [List.mem_singleton.mp z]; exact Nat.le_refl _))
  obtain ⟨_, _, _, _, _, _, sO, _⟩ := id v4
  have hf4 : H3.size < H4.size := by
    obtain ⟨_, _, _, _, z1, _⟩ := hfl
    exact z1.lt
  refine sN_server_33 (by omega) (Nat.le_of_ble_eq_true rfl) sO.is (c_Sv_firstWrong hC (by omega) v4 (List.mem_cons_of_mem _ List.mem_cons_self) List.mem_cons_self hL4 hn (r4.le _ _ (by omega) (by omega))) ?_
  rintro k H5 ⟨k1, k2, k3, k4⟩ ho5 hs5 -
  have mo5 : zMo [] H2 H5 := mo4.tr k3 (fun q z => by cases z) (fun q z => Or.inr (by
    rcases List.mem_cons.mp z with rfl | z
    · exact Nat.le_refl _
    · rw [List.mem_singleton.mp z]; omega))
  have us5 : zUs (18 * T.1.length + 222) (90 * T.1.length + 3910) H2 H5 := us4.tr k4 (by omega) (by omega)
  have D5 := D1.ex mo5 ho1 ho5
  have s5 : zSx R M H R M (18 * T.1.length + 224) (91 * T.1.length + 3914) H5 := s1.tr (zSx.ex mo5 us5) (by omega) (by omega)
  unfold oServer
  cases hz : zServe T.1 with
  | inl p =>
    have := k1 p hz
    subst this
    have hp := zServe_le hz
    exact sN_server_38 (fun z => absurd z (nI_nm1 (by omega))) (fun _ => sN_server_46 (zPost.from rfl D5 (s5.le (by omega) (by omega))))
  | inr α =>
    obtain ⟨rfl, F, v5, eα⟩ := k2 α hz
    have hWα : zAnW α := zServe_w (by
      rw [← tw_all]
      omega) hz
    refine sN_server_38 (fun _ => ?_) (fun z => absurd rfl z)
    have r5 := r4.us k4 (4 * T.1.length + 400) (44 * T.1.length + 4000) (by omega) (by omega)
    refine sN_server_53 (by have := r5.1; omega) (by have := r5.2; omega) (fun H6 b6 n6 => ?_)
    have ho6 := n6.ok (by have := r5.1; omega) (by have := r5.2; omega) ho5
    have hnew6 : ∀ q ∈ H5.size :: H3.size :: H2.size :: zRL R, q ∈ H3.size :: H2.size :: zRL R ∨ H5.size ≤ q := fun q z => by
      rcases List.mem_cons.mp z with rfl | z
      · exact Or.inr (Nat.le_refl _)
      · exact Or.inl z
    have v6 : zSvO G (H5.size :: H3.size :: H2.size :: zRL R) H6 H2.size H3.size T.1 α.1 F α.2.2.2.2.2 := v5.st n6.mo List.not_mem_nil List.not_mem_nil nS hnew6
    obtain ⟨w0, w1, w2, wa, wp, wc, w3, w4, w5, w6⟩ := id v6
    have hL5 : zLi G H5 (H3.size :: H2.size :: zRL R) := hL4.mo hs5
    refine sN_server_56 zRf_ref zRf_ref zRf_ref (w3.fd rfl) (w3.fd rfl) (w3.fd rfl) (by omega) (Nat.le_of_ble_eq_true rfl) (c_An_init hC (by omega) b6 (zFr_new ho5) (hL5.new (Nat.le_refl _)) w5 w2 w6 (by omega)) ?_
    rintro H7 ⟨an, m7, u7⟩ ho7 hs7 -
    rw [← eα] at an
    have anL : zAnO G (zRL R) H7 H5.size α := an.st zMo.rf (S := []) nS (fun q z => Or.inl (List.mem_cons_of_mem _ (List.mem_cons_of_mem _ z)))
    have mo7 : zMo [] H2 H7 := (mo5.ex n6.mo).tr m7 (fun q z => by cases z) (fun q z => Or.inr (by rw [List.mem_singleton.mp z]; exact mo5.1))
    have us7 : zUs (18 * T.1.length + 223) (90 * T.1.length + 3917) H2 H7 := (us5.tr n6.us (c := 18 * T.1.length + 223) (s := 90 * T.1.length + 3917) (by omega) (by omega)).tr u7 (by omega) (by omega)
    have D7 := D1.ex mo7 ho1 ho7
    have s7 : zSx R M H R M (18 * T.1.length + 225) (91 * T.1.length + 3921) H7 := s1.tr (zSx.ex mo7 us7) (by omega) (by omega)
    obtain ⟨l0, l1, ⟨vb7, cm7, fm7, wr7, wf7, hO7, hI7⟩, -, -, -, l6, -, -, -⟩ := id D7
    obtain ⟨y0, y1, y2, p, n1, v1, c1, w1', g0, g1, g2, g3, g4, g5, g6, i0, i1, i2, i3, i4⟩ := id anL
    refine sN_server_72 zRf_ref g0 (by omega) (Nat.le_of_ble_eq_true rfl) D7.is (c_N_placeOfAnswer hC (by omega) D7 i0 hWα.1 hD) ?_
    rintro q H8 ⟨rfl, rfl⟩ - - -
    have hlen := hD.2.1
    by_cases hp : zFi (zAsp (zPl α.1)) D.1 < D.1.length
    · have ea : zAput D.1 α = some (D.1.set (zFi (zAsp (zPl α.1)) D.1) α) := if_pos hp
      rw [if_pos hp]
      refine sN_server_83 (fun z => absurd z (nI_nm1 (by omega))) (fun _ => ?_)
      refine sN_server_91 zRf_ref (hO7.fd rfl) (by omega) (Nat.le_of_ble_eq_true rfl) l6.is (v_set hC.1 (by omega) zKd_an zEl_an l6 hp anL l0.1) ?_
      rintro q H9 hq ⟨t1, t2, t3⟩ ho9 hs9 -
      have D9 := D7.p4 t2 (zRs.rf (R := R)) ho7 ho9 t1
      rw [upd_same] at D9
      obtain ⟨-, -, ⟨vb9, cm9, fm9, wr9, wf9, hO9, hI9⟩, -⟩ := id D9
      refine sN_server_102 hq.cat (hO9.fd rfl) (by omega) (Nat.le_of_ble_eq_true rfl) t1.is (v_size hC.1.1 t1) ?_
      rintro q H10 ⟨rfl, rfl⟩ - - -
      have s9 := s7.tr (zSx.one (c := 4) (R := R) (R' := R) (M := M) (M' := M) (cc := 0) (ss := 0) (by omega) zRs.rf t2 (Nat.le_refl _) (t3.le (by omega) (by omega))) (cc := 18 * T.1.length + 230) (ss := 91 * T.1.length + 3930) (by omega) (by omega)
      simp only [ea]
      exact sN_server_140 (zPost.from rfl D9 s9)
    · rw [if_neg hp]
      refine sN_server_83 (fun _ => ?_) (fun z => absurd rfl z)
      refine sN_server_106 (hO7.fd rfl) (by omega) (Nat.le_of_ble_eq_true rfl) l6.is (v_size hC.1.1 l6) ?_
      rintro q H9 ⟨rfl, rfl⟩ - - -
      by_cases h12 : D.1.length < 12
      · have ea : zAput D.1 α = some (D.1 ++ [α]) := (if_neg hp).trans (if_pos h12)
        refine sN_server_113 (fun z => absurd z (nI_ge (b := 12) h12 (by decide))) (fun _ => ?_)
        refine sN_server_118 zRf_ref (hO7.fd rfl) (by omega) (Nat.le_of_ble_eq_true rfl) l6.is (v_add hC.1 (by omega) zKd_an zEl_an l6 anL (by show D.1.length ≤ 300; omega) (r1.us us7 _ _ (by omega) (by show _ + (10 + 2 * D.1.length) ≤ _; omega)) ho7) ?_
        rintro q H10 hv ho10 hs10 -
        obtain ⟨e', m', t1, t2, t3, t4, t5, t6⟩ := hv ho10
        have hv' : zVres G (zAnO G) (zRL R) (R 4) H9 (K 4) (M 4) 3 (D.1 ++ [α]) H10 := ⟨e', m', t1, t2, t3, by have : m' = M 4 ∨ m' ≤ 10 + 2 * D.1.length := t4; omega, t5, t6⟩
        obtain ⟨R3, m10, z1, z2, z3, z4, z5, z6⟩ := zVres.rs (R := R) zKd_an (by omega) hv' ho10
        have D10 := D7.p4 z3 z1 ho7 ho10 z2
        obtain ⟨-, -, ⟨vb9, cm9, fm9, wr9, wf9, hO9, hI9⟩, -⟩ := id D10
        refine sN_server_127 rfl (hO9.fd rfl) (by omega) (Nat.le_of_ble_eq_true rfl) z2.is (v_size hC.1.1 z2) ?_
        rintro q H11 ⟨rfl, rfl⟩ - - -
        have s10 := s7.tr (zSx.one (M' := fun i => if i = 4 then m10 else M i) (c := 4) (cc := 0) (ss := 0) (by omega) z1 z3 (by rw [zPh_4]; unfold zPh; omega) (by rw [zPh_4]; unfold zPh; exact z5.le (by omega) (by omega))) (cc := 18 * T.1.length + 230) (ss := 91 * T.1.length + 3930) (by omega) (by omega)
        simp only [ea]
        exact sN_server_140 (zPost.from rfl D10 s10)
      · have ea : zAput D.1 α = none := (if_neg hp).trans (if_neg h12)
        refine sN_server_113 (fun _ => ?_) (fun z => absurd (nI_le (a := 12) (by omega) (by show D.1.length < _; omega)) z)
        simp only [ea]
        exact sN_server_131 (zPost.from rfl D7 (s7.le (by omega) (by omega)))
end KF
