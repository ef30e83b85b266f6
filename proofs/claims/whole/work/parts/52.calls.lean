section KP
variable {G : zG} {d : Nat} {K : Nat → Nat} {R R' : Nat → List Nat} {M : Nat → Nat} {H H1 H' : Heap} {T : zTT} {D : zDD} {Q : zRR} {C : zCC} {c o v m v' m' x : Nat} {u : List Nat}
theorem zPost.from {o : zOo} {k : Int32} {M' : Nat → Nat} {cc ss : Nat} (hk : k = o.1) (h : zDk G K R' M' H1 o.2.1 o.2.2.1 o.2.2.2.1 o.2.2.2.2) (hs : zSx R M H R' M' cc ss H1) : zPost G K R M H o cc ss (some (.int k)) H1 := ⟨k, rfl, hk, R', M', h, hs⟩
theorem zMk_len {A : zA} (h : zWf A) : A.2.2.2.length ≤ 9 := by
  rcases h.2.2.2.2.2 with e | ⟨m, e, e2⟩
  · rw [e]; exact Nat.zero_le _
  · rw [e, List.length_cons]; have := (zNm_all e2).2.1; omega
theorem c_N_resolve (hC : zCv G) (hd : 11 ≤ d) (h : zDk G K R M H T D Q C) (hn : T.1.length ≤ 2000) (hw : zWf T.2.2) (hR : zRm G H (8 * T.1.length + 400) (64 * T.1.length + 8400)) : zC G d M_N_resolve [.ref (K 0)] H (zPost G K R M H (oTx oResolve T D Q C) (4 * T.1.length + 62) (25 * T.1.length + 1204)) := by
  refine zC_in [some (.ref (K 0)), none, none, none] pn_N_resolve hC.1.1.1 rfl (Nat.le_of_ble_eq_true rfl) rfl (fun ho => ?_)
  refine sN_resolve_0 (by omega) (Nat.le_of_ble_eq_true rfl) h.is (c_N_takeText hC (by omega) h hn (hR.le _ _ (by omega) (by omega))) ?_
  rintro q H1 - ⟨a, rfl, x1, D1, s1⟩ ho1 hs1 -
  have hl := x1.le
  have htw := tw_le zOkc T.1
  refine sN_resolve_4 zRf_ref (by omega) (Nat.le_of_ble_eq_true rfl) (c_Tx_badByte hC.1.1 (by omega) x1) ?_
  rintro q H2 ⟨rfl, rfl⟩ - - -
  unfold oTx
  by_cases e : zTw zOkc T.1 < T.1.length
  · rw [if_pos e, if_pos e]
    exact sN_resolve_9 (fun z => absurd z (nI_nm1 (by omega))) (fun _ => sN_resolve_15 (zPost.from rfl D1 (s1.le (by omega) (by omega))))
  · rw [if_neg e, if_neg e]
    refine sN_resolve_9 (fun _ => ?_) (fun z => absurd rfl z)
    obtain ⟨h0, h1, ⟨vb, cm, fm, wr, wf, hO, hI1, hI2, hI3, hI4, hI5⟩, h3⟩ := id D1
    have hus1 := s1.2.2.2.2
    rw [Nat.sub_self] at hus1
    refine sN_resolve_21 zRf_ref zRf_ref (hO.fd rfl) (by omega) (Nat.le_of_ble_eq_true rfl) (c_Ad_read hC (by omega) x1 hI1 hw h0.1 hn (hR.us hus1 _ _ (by omega) (by omega))) ?_
    rintro q H3 hq ⟨r1, r2, m3, u3⟩ ho3 hs3 -
    have s3 : zSx R M H R M (4 * T.1.length + 62) (25 * T.1.length + 1204) H3 := s1.tr (zSx.ex m3 u3) (by omega) (by omega)
    have D3 := D1.ex m3 ho1 ho3
    unfold oResolve
    cases hz : zRead T.1 T.2.2 with
    | none =>
      have := r1 hz
      subst this
      exact sN_resolve_29 zRf_null (fun _ z => by cases z) (fun _ => sN_resolve_34 (zPost.from rfl D3 s3))
    | some A =>
      obtain ⟨cA, rfl, hA⟩ := r2 A hz
      have hwA := zRead_wf hw hz
      refine sN_resolve_29 zRf_ref (fun _ _ => ?_) (fun z => by cases z)
      obtain ⟨a1, a2, cs, cp, cq, ck, a3, a4, a5, a6, a7, a8, a9, a10⟩ := id hA
      have hus3 := s3.2.2.2.2
      rw [Nat.sub_self] at hus3
      refine sN_resolve_36 zRf_ref a6 (by omega) (Nat.le_of_ble_eq_true rfl) D3.is (c_N_writeAddress hC (by omega) D3 (zOa.some hA) (fun B hB => by cases hB; exact hwA) a10 (zMk_len hwA) (hR.us hus3 _ _ (by omega) (by omega))) ?_
      rintro q H4 ⟨rfl, R', M', D4, s4⟩ ho4 hs4 -
      exact sN_resolve_45 (zPost.from rfl D4 (s3.tr s4 (by omega) (by omega)))
theorem c_N_base (hC : zCv G) (hd : 11 ≤ d) (h : zDk G K R M H T D Q C) (hn : T.1.length ≤ 2000) (hw : zWf T.2.2) (hR : zRm G H (8 * T.1.length + 400) (64 * T.1.length + 8400)) : zC G d M_N_base [.ref (K 0)] H (zPost G K R M H (oTx oBase T D Q C) (4 * T.1.length + 62) (25 * T.1.length + 1204)) := by
  refine zC_in [some (.ref (K 0)), none, none, none] pn_N_base hC.1.1.1 rfl (Nat.le_of_ble_eq_true rfl) rfl (fun ho => ?_)
  refine sN_base_0 (by omega) (Nat.le_of_ble_eq_true rfl) h.is (c_N_takeText hC (by omega) h hn (hR.le _ _ (by omega) (by omega))) ?_
  rintro q H1 - ⟨a, rfl, x1, D1, s1⟩ ho1 hs1 -
  have hl := x1.le
  have htw := tw_le zOkc T.1
  refine sN_base_4 zRf_ref (by omega) (Nat.le_of_ble_eq_true rfl) (c_Tx_badByte hC.1.1 (by omega) x1) ?_
  rintro q H2 ⟨rfl, rfl⟩ - - -
  unfold oTx
  by_cases e : zTw zOkc T.1 < T.1.length
  · rw [if_pos e, if_pos e]
    exact sN_base_9 (fun z => absurd z (nI_nm1 (by omega))) (fun _ => sN_base_15 (zPost.from rfl D1 (s1.le (by omega) (by omega))))
  · rw [if_neg e, if_neg e]
    refine sN_base_9 (fun _ => ?_) (fun z => absurd rfl z)
    obtain ⟨h0, h1, ⟨vb, cm, fm, wr, wf, hO, hI1, hI2, hI3, hI4, hI5⟩, h3⟩ := id D1
    have hus1 := s1.2.2.2.2
    rw [Nat.sub_self] at hus1
    refine sN_base_21 zRf_ref zRf_ref (hO.fd rfl) (by omega) (Nat.le_of_ble_eq_true rfl) (c_Ad_read hC (by omega) x1 hI1 hw h0.1 hn (hR.us hus1 _ _ (by omega) (by omega))) ?_
    rintro q H3 hq ⟨r1, r2, m3, u3⟩ ho3 hs3 -
    have s3 : zSx R M H R M (4 * T.1.length + 62) (25 * T.1.length + 1204) H3 := s1.tr (zSx.ex m3 u3) (by omega) (by omega)
    have D3 := D1.ex m3 ho1 ho3
    unfold oBase
    cases hz : zRead T.1 T.2.2 with
    | none =>
      have := r1 hz
      subst this
      exact sN_base_29 zRf_null (fun _ z => by cases z) (fun _ => sN_base_34 (zPost.from rfl D3 s3))
    | some A =>
      obtain ⟨cA, rfl, hA⟩ := r2 A hz
      have hwA := zRead_wf hw hz
      refine sN_base_29 zRf_ref (fun _ _ => ?_) (fun z => by cases z)
      refine sN_base_36 zRf_ref (hO.ex m3) D3.fr (fun H4 g4 u4 => ?_)
      have ho4 := u4.ok D3.fr ho3
      have hS : ∀ q ∈ [K 0], q ∈ zRL R ∨ H3.size ≤ q := fun q z => Or.inl (by rw [List.mem_singleton.mp z]; exact zRL_mem (by omega) h1)
      have nS : ∀ {Hx : Heap}, ∀ q ∈ ([] : List Nat), q ∈ zRL R ∨ Hx.size ≤ q := fun q z => by cases z
      have id' : ∀ {Hx : Heap}, ∀ q ∈ zRL R, q ∈ zRL R ∨ Hx.size ≤ q := fun q z => Or.inl z
      have hA4 := hA.mo u4.mo hS
      have D4 := D3.px u4 ho3 ho4 (b := A) (clk := D.2.2.2) (rq := Q.1) (ra := Q.2.1) (C' := C) ⟨cA, cm, fm, wr, wf, g4, hA4, (hI2.st m3 nS id').st u4.mo hS id', (hI3.st m3 nS id').st u4.mo hS id', (hI4.st m3 nS id').st u4.mo hS id', (hI5.st m3 nS id').st u4.mo hS id'⟩
      refine sN_base_41 (by omega) (Nat.le_of_ble_eq_true rfl) hA4.2.1 (c_Ad_segments hC (by omega) hA4 hwA) ?_
      rintro q H5 ⟨rfl, rfl⟩ - - -
      exact sN_base_45 (zPost.from rfl D4 (s3.tr (zSx.one (c := 0) (cc := 0) (ss := 0) (by omega) zRs.rf (u4.mo.mono (fun q z => Or.inl (by rw [List.mem_singleton.mp z]; exact h1))) (Nat.le_refl _) u4.us) (by omega) (by omega)))
theorem c_N_forget (hC : zCv G) (hd : 8 ≤ d) (h : zDk G K R M H T D Q C) (hn : T.1.length ≤ 2000) (hD : zDDW D) (hR : zRm G H 2 (T.1.length + 4)) : zC G d M_N_forget [.ref (K 0)] H (zPost G K R M H (oTx oForget T D Q C) 2 (T.1.length + 4)) := by
  refine zC_in [some (.ref (K 0)), none, none, none] pn_N_forget hC.1.1.1 rfl (Nat.le_of_ble_eq_true rfl) rfl (fun ho => ?_)
  refine sN_forget_0 (by omega) (Nat.le_of_ble_eq_true rfl) h.is (c_N_takeText hC (by omega) h hn (hR.le _ _ (by omega) (by omega))) ?_
  rintro q H1 - ⟨a, rfl, x1, D1, s1⟩ ho1 hs1 -
  have hl := x1.le
  have htw := tw_le zOkc T.1
  refine sN_forget_4 zRf_ref (by omega) (Nat.le_of_ble_eq_true rfl) (c_Tx_badByte hC.1.1 (by omega) x1) ?_
  rintro q H2 ⟨rfl, rfl⟩ - - -
  unfold oTx
  by_cases e : zTw zOkc T.1 < T.1.length
  · rw [if_pos e, if_pos e]
    exact sN_forget_9 (fun z => absurd z (nI_nm1 (by omega))) (fun _ => sN_forget_15 (zPost.from rfl D1 s1))
  · rw [if_neg e, if_neg e]
    refine sN_forget_9 (fun _ => ?_) (fun z => absurd rfl z)
    obtain ⟨h0, h1, ⟨vb, cm, fm, wr, wf, hO, hI⟩, h3, h4, h5, h6, h7, h8, h9⟩ := id D1
    obtain ⟨f1, f2, f3, f4, f5, f6, f7, f8⟩ := h9
    refine sN_forget_21 zRf_ref (by omega) (Nat.le_of_ble_eq_true rfl) (c_Tx_noNameAt hC.1.1 (by omega) x1) ?_
    rintro q H3 ⟨rfl, rfl⟩ - - -
    unfold oForget
    by_cases hz : zNm T.1 = true
    · rw [if_pos hz]
      refine sN_forget_25 (fun _ => ?_) (fun z => absurd ((zNa_iff hl).mpr hz) z)
      refine sN_forget_37 zRf_ref (hO.fd rfl) (by omega) (Nat.le_of_ble_eq_true rfl) f2 (c_Jr_dropLast hC (by omega) f3 h7 x1 hD.2.2.2.2.1) ?_
      rintro q H4 ⟨rfl, g1, g2, g3⟩ ho4 hs4 -
      have D4 := D1.p5 g2 (zRs.rf (R := R)) ho1 ho4 g1
      rw [upd_same] at D4
      have s4 := s1.tr (zSx.one (c := 5) (R := R) (R' := R) (M := M) (M' := M) (cc := 0) (ss := 0) (by omega) zRs.rf g2 (Nat.le_refl _) (g3.le (by omega) (by omega))) (cc := 2) (ss := T.1.length + 4) (by omega) (by omega)
      have D4' := D4
      cases hL : zLst T.1 D.2.1 D.2.1.length with
      | none =>
        have hL' : zLst T.1 (D.2.1) (D.2.1).length = none := hL
        rw [hL] at D4
        exact sN_forget_45 (zPost.from rfl D4 s4)
      | some i =>
        rw [hL] at D4
        exact sN_forget_45 (zPost.from rfl D4 s4)
    · rw [if_neg hz]
      refine sN_forget_25 (fun z => absurd ((zNa_iff hl).mp z) hz) (fun _ => sN_forget_31 (zPost.from rfl D1 s1))
theorem c_N_write (hC : zCv G) (hd : 8 ≤ d) (h : zDk G K R M H T D Q C) (hw : zWf T.2.2) (hra : ∀ b, Q.2.1 = some b → zWf b) (hcf : ∀ b, C.2.1 = some b → zWf b) (hfm : C.2.2.1.length ≤ 9) (hsn : Q.2.2.length ≤ 400) (hR : zRm G H 62 3410) (n : Int32) : zC G d M_N_write [.ref (K 0), .int n] H (zPost G K R M H (oWrite n T D Q C) 2 410) := by
  obtain ⟨h0, h1, ⟨vb, cm, fm, wr, wf, hO, hI1, hI2, hI3, hI4, hI5⟩, h3, ⟨t0, t16, t8, v, t1, t2⟩, ⟨q0, q16, q8, w, q1, q2⟩, h6, h7, h8, h9⟩ := id h
  refine zC_in [some (.ref (K 0)), some (.int n)] pn_N_write hC.1.1.1 rfl (Nat.le_of_ble_eq_true rfl) rfl (fun ho => ?_)
  refine zw_iload_n (j := 1) (i := 1) dN_write_0 rfl rfl ?_
  unfold oWrite
  by_cases e0 : n = 0
  · subst e0
    refine zw_tableIn 32 dN_write_1 (by decide) (by decide) rfl rfl ?_
    obtain ⟨a1, a2, cs, cp, cq, ck, a3, a4, a5, a6, a7, a8, a9, a10⟩ := id hI1
    refine sN_write_32 zRf_ref zRf_ref (hO.fd rfl) (hO.fd rfl) a6 (by omega) (Nat.le_of_ble_eq_true rfl) h.is (c_N_writeAddress hC (by omega) h (zOa.some hI1) (fun B hB => by cases hB; exact hw) a10 (zMk_len hw) (hR.le _ _ (by omega) (by omega))) ?_
    rintro q H4 ⟨rfl, R', M', D4, s4⟩ ho4 hs4 -
    exact sN_write_47 (zPost.from rfl D4 (s4.le (by omega) (by omega)))
  rw [if_neg e0]
  by_cases e1 : n = 1
  · subst e1
    refine zw_tableIn 48 dN_write_1 (by decide) (by decide) rfl rfl ?_
    obtain ⟨k0, lt0, tx0⟩ := hC.li (L := zRL R) ho h0.1 2 rfl
    refine sN_write_48 hI2.rf (hO.fd rfl) lt0 (by omega) (Nat.le_of_ble_eq_true rfl) h.is (c_N_writeAddress hC (by omega) h hI2 hra tx0 (by decide) (hR.le _ _ (by omega) (by omega))) ?_
    rintro q H4 ⟨rfl, R', M', D4, s4⟩ ho4 hs4 -
    exact sN_write_58 (zPost.from rfl D4 (s4.le (by omega) (by omega)))
  rw [if_neg e1]
  by_cases e2 : n = 2
  · subst e2
    refine zw_tableIn 59 dN_write_1 (by decide) (by decide) rfl rfl ?_
    refine sN_write_59 (hO.fd rfl) (by omega) (Nat.le_of_ble_eq_true rfl) t2.is (c_Sb_setLength hC.1.1 (by omega) t2 (n := 0) (Nat.zero_le _)) ?_
    rintro H1 ⟨g1, g2, g3⟩ ho1 hs1 -
    have g1' : zSB G H1 (K 2) v (M 2) [] := g1
    have m1 : zMo (R 2) H H1 := g2.mono (fun q z => Or.inl (by rw [List.mem_singleton.mp z]; exact t0))
    have D1 := h.p2 m1 (zRs.rf (R := R)) ho ho1 (m := M 2) (t := []) ⟨t0, t16, t8, v, t1, g1'⟩
    rw [upd_same] at D1
    have s1 : zSx R M H R M 0 0 H1 := zSx.one (c := 2) (by omega) zRs.rf m1 (Nat.le_refl _) (g3.le (by omega) (by omega))
    have hKo : K 0 ∉ R 2 := h0.2 0 2 (by omega) (by omega) (by omega) _ h1
    have hO1 := hO.mo m1 hKo
    have q2' : zSB G H1 (K 3) w (M 3) Q.2.2 := q2.mo m1 (h0.2 3 2 (by omega) (by omega) (by omega) _ q0) (h0.2 3 2 (by omega) (by omega) (by omega) _ q1)
    refine sN_write_67 zRf_ref (hO1.fd rfl) (hO1.fd rfl) (by omega) (Nat.le_of_ble_eq_true rfl) q2'.is (c_Sb_toString hC.1.1 (by omega) q2' (h0.1.mo hs1) (hR.us g3 _ _ (by omega) (by omega))) ?_
    rintro q H2 - ⟨b2, rfl, x2, m2, u2⟩ ho2 hs2 -
    have D2 := D1.ex m2 ho1 ho2
    have g2' := g1'.ex m2
    have ovL : ∀ q ∈ [K 2, v], q ∈ zRL R := fun q z => by
      rcases List.mem_cons.mp z with rfl | z
      · exact zRL_mem (by omega) t0
      · rw [List.mem_singleton.mp z]; exact zRL_mem (by omega) t1
    have u12 : zUs 2 (Q.2.2.length + 4) H H2 := g3.tr u2 (by omega) (by omega)
    refine sN_write_78 zRf_ref (by omega) (Nat.le_of_ble_eq_true rfl) g2'.is (ti_app1 hC.1.1 (by omega) t16 (ti_0 (N := 400) g2') (x2.li (fun q z => Or.inl (ovL q z))) (by simp only [List.length_nil]; omega) (by decide) (hR.us u12 _ _ (by omega) (by omega))) ?_
    rintro q H3 - ⟨rfl, v3, m3, hT3⟩ ho3 hs3 -
    obtain ⟨k1, k2, k3⟩ := zSr_of (c := 2) (R := R) t0 t16 t8 (by decide) hT3 t1
    refine sN_write_81 rfl (((hO1.ex m2).mo k3 hKo).fd rfl) (by omega) (Nat.le_of_ble_eq_true rfl) hT3.1.is (c_Sb_length hC.1.1 (by omega) hT3.1) ?_
    rintro q H4 ⟨rfl, rfl⟩ - - -
    have D3 := D2.p2 k3 k1 ho2 ho3 k2
    have h43 := hT3.2.2.1
    refine sN_write_89 (zPost.from rfl D3 (((s1.tr (zSx.ex m2 u2) (cc := 2) (ss := 404) (by omega) (by omega)).tr (zSx.one (c := 2) (cc := 0) (ss := 0) (by omega) k1 k3 (by rw [zPh_2]; unfold zPh; omega) (by rw [zPh_2]; unfold zPh; exact hT3.2.2.2.2.2.le (by omega) (by omega))) (cc := 2) (ss := 410) (by omega) (by omega))))
  rw [if_neg e2]
  by_cases e3 : n = 3
  · subst e3
    refine zw_tableIn 90 dN_write_1 (by decide) (by decide) rfl rfl ?_
    refine sN_write_90 hI4.rf zRf_ref (hO.fd rfl) (hO.fd rfl) (by omega) (Nat.le_of_ble_eq_true rfl) h.is (c_N_writeAddress hC (by omega) h hI4 hcf hI5 hfm (hR.le _ _ (by omega) (by omega))) ?_
    rintro q H4 ⟨rfl, R', M', D4, s4⟩ ho4 hs4 -
    exact sN_write_102 (zPost.from rfl D4 (s4.le (by omega) (by omega)))
  rw [if_neg e3]
  refine zw_tableOut 103 dN_write_1 (w_out (fun k a b e => ?_)) rfl ?_
  · have z0 := zNe e0 0 (by decide)
    have z1 := zNe e1 1 (by decide)
    have z2 := zNe e2 2 (by decide)
    have z3 := zNe e3 3 (by decide)
    omega
  · exact sN_write_103 (zPost.same rfl h)
end KP
