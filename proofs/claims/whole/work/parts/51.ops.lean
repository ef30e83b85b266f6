/-! What each call answers, and what is then. -/
abbrev zOo : Type := Int32 × zTT × zDD × zRR × zCC
def zWb (w : Int32) : List Nat := [zBy w 24, zBy w 16, zBy w 8, zBy w 0]
def oFeed (a b c e f : Int32) (T : zTT) (D : zDD) (Q : zRR) (C : zCC) : zOo := if 1980 < T.1.length then (-1, T, D, Q, C) else (nI (T.1.length + 20), (T.1 ++ zWb a ++ zWb b ++ zWb c ++ zWb e ++ zWb f, T.2), D, Q, C)
def oEnd (n : Int32) (T : zTT) (D : zDD) (Q : zRR) (C : zCC) : zOo := if n < 0 ∨ nI T.1.length < n then (-1, T, D, Q, C) else (n, (T.1.take n.toNatClampNeg, T.2), D, Q, C)
def zAtI (t : List Nat) (i : Int32) : Int32 := if i < 0 ∨ nI t.length ≤ i then -1 else nI (t.getD i.toNatClampNeg 0)
def oOut (i : Int32) (T : zTT) (D : zDD) (Q : zRR) (C : zCC) : zOo := (zAtI T.2.1 i, T, D, Q, C)
def oBody (i : Int32) (T : zTT) (D : zDD) (Q : zRR) (C : zCC) : zOo := (zAtI C.1.2.2.2.2.2 i, T, D, Q, C)
def oTick (n : Int32) (T : zTT) (D : zDD) (Q : zRR) (C : zCC) : zOo := if n < 0 ∨ 1000 < n then (-1, T, D, Q, C) else (nI (D.2.2.2 + n.toNatClampNeg), T, (D.1, D.2.1, D.2.2.1, D.2.2.2 + n.toNatClampNeg), Q, C)
/-- a call that takes THE TAPE's text -/
def oTx (f : List Nat → zTT → zDD → zRR → zCC → zOo) (T : zTT) (D : zDD) (Q : zRR) (C : zCC) : zOo := if zTw zOkc T.1 < T.1.length then (-1000 - nI (zTw zOkc T.1), ([], T.2), D, Q, C) else f T.1 ([], T.2) D Q C
def oResolve (t : List Nat) (T : zTT) (D : zDD) (Q : zRR) (C : zCC) : zOo := match zRead t T.2.2 with
  | none => (-1, T, D, Q, C)
  | some A => (nI (zPl A ++ A.2.2.2).length, (T.1, zPl A ++ A.2.2.2, T.2.2), D, Q, C)
def oBase (t : List Nat) (T : zTT) (D : zDD) (Q : zRR) (C : zCC) : zOo := match zRead t T.2.2 with
  | none => (-1, T, D, Q, C)
  | some A => (nI A.2.1.length, (T.1, T.2.1, A), D, Q, C)
def zAput (as : List zAn) (α : zAn) : Option (List zAn) := if zFi (zAsp (zPl α.1)) as < as.length then some (as.set (zFi (zAsp (zPl α.1)) as) α) else if as.length < 12 then some (as ++ [α]) else none
def oServer (t : List Nat) (T : zTT) (D : zDD) (Q : zRR) (C : zCC) : zOo := match zServe t with
  | .inl p => (-1000 - nI p, T, D, Q, C)
  | .inr α => match zAput D.1 α with
    | none => (-1, T, D, Q, C)
    | some as => (nI as.length, T, (as, D.2), Q, C)
def oFetch (t : List Nat) (T : zTT) (D : zDD) (Q : zRR) (C : zCC) : zOo := match zRead t T.2.2 with
  | none => (-1, T, D, Q, C)
  | some A => (nI (zGoo 5 D Q A).2.2.1.2.2.2.2.2.length, T, (zGoo 5 D Q A).1, (zGoo 5 D Q A).2.1, ((zGoo 5 D Q A).2.2.1, some (zGoo 5 D Q A).2.2.2.1, A.2.2.2, (zGoo 5 D Q A).2.2.2.2.1, (zGoo 5 D Q A).2.2.2.2.2))
def oForget (t : List Nat) (T : zTT) (D : zDD) (Q : zRR) (C : zCC) : zOo := if zNm t = true then (match zLst t D.2.1 D.2.1.length with
    | none => (-1, T, D, Q, C)
    | some i => (nI (zHad t D.2.1) - 1, T, (D.1, D.2.1.eraseIdx i, D.2.2), Q, C)) else (-1000 - zNa t, T, D, Q, C)
def oWrite (w : Int32) (T : zTT) (D : zDD) (Q : zRR) (C : zCC) : zOo :=
  if w = 0 then (nI (zPl T.2.2 ++ T.2.2.2.2.2).length, (T.1, zPl T.2.2 ++ T.2.2.2.2.2, T.2.2), D, Q, C)
  else if w = 1 then (nI (zOut Q.2.1 []).length, (T.1, zOut Q.2.1 [], T.2.2), D, Q, C)
  else if w = 2 then (nI Q.2.2.length, (T.1, Q.2.2, T.2.2), D, Q, C)
  else if w = 3 then (nI (zOut C.2.1 C.2.2.1).length, (T.1, zOut C.2.1 C.2.2.1, T.2.2), D, Q, C)
  else (-1, T, D, Q, C)
def oCount (w : Int32) (T : zTT) (D : zDD) (Q : zRR) (C : zCC) : zOo :=
  (if w = 0 then nI D.1.length else if w = 1 then nI D.2.1.length else if w = 2 then nI D.2.2.1.length else if w = 3 then nI Q.1 else if w = 4 then nI D.2.2.2 else if w = 5 then nI C.2.2.2.1 else if w = 6 then zB1 C.1.2.2.2.2.1 else if w = 7 then zB1 C.2.2.2.2 else -1, T, D, Q, C)
def zPost (G : zG) (K : Nat → Nat) (R : Nat → List Nat) (M : Nat → Nat) (H : Heap) (o : zOo) (cc ss : Nat) : Option Value → Heap → Prop := zPi fun k H1 => k = o.1 ∧ ∃ R' M', zDk G K R' M' H1 o.2.1 o.2.2.1 o.2.2.2.1 o.2.2.2.2 ∧ zSx R M H R' M' cc ss H1
section KO
variable {G : zG} {d : Nat} {K : Nat → Nat} {R R' : Nat → List Nat} {M : Nat → Nat} {H H1 H' : Heap} {T : zTT} {D : zDD} {Q : zRR} {C : zCC} {c o v m v' m' x : Nat} {u : List Nat}
theorem c_N_addWord (hC : zCv G) (hd : 6 ≤ d) (h16 : 16 ≤ m) (hT : zTi G H o v m 2000 H' v' m' u) (hx : zFd G H x 0 0 (.ref o)) (hxo : x ≠ o) (hxv : x ≠ v) {w : Int32} (hl : u.length + 4 ≤ 2000) (hR : zRm G H 223 12000) : zC G d M_N_addWord [.ref x, .int w] H' (zPv fun H1 => ∃ v2 m2, zTi G H o v m 2000 H1 v2 m2 (u ++ zWb w)) := by
  have hR' : zRm G H (2000 / 9 + 1) (6 * 2000) := hR
  have hx' : ∀ {Hx : Heap} {vx mx : Nat} {ux : List Nat}, zTi G H o v m 2000 Hx vx mx ux → zFd G Hx x 0 0 (.ref o) := fun h => hx.mo h.2.2.2.2.1 (by simp only [List.mem_cons, List.not_mem_nil, or_false]; omega)
  refine zC_in [some (.ref x), some (.int w), none] pn_N_addWord hC.1.1.1 rfl (Nat.le_of_ble_eq_true rfl) rfl (fun ho => ?_)
  refine sN_addWord_0 ?_
  refine sN_addWord_3 (fun z => absurd z (by decide)) (fun _ => ?_)
  refine sN_addWord_7 (hx' hT) (by omega) (Nat.le_of_ble_eq_true rfl) hT.1.is (by rw [zBy_c0 w 24 24 (by decide)]; exact ti_app0 hC.1.1 (by omega) h16 hT (zBy_lt _ _) (by omega) (by decide) hR') ?_
  rintro q H1 - ⟨rfl, v1, m1, hT1⟩ - - -
  refine sN_addWord_22 rfl ?_
  rw [show (24 : Int32) + (-8) = 16 from by decide]
  refine sN_addWord_3 (fun z => absurd z (by decide)) (fun _ => ?_)
  refine sN_addWord_7 (hx' hT1) (by omega) (Nat.le_of_ble_eq_true rfl) hT1.1.is (by rw [zBy_c0 w 16 16 (by decide)]; exact ti_app0 hC.1.1 (by omega) h16 hT1 (zBy_lt _ _) (by rw [List.length_append]; simp only [List.length_cons, List.length_nil]; omega) (by decide) hR') ?_
  rintro q H2 - ⟨rfl, v2, m2, hT2⟩ - - -
  refine sN_addWord_22 rfl ?_
  rw [show (16 : Int32) + (-8) = 8 from by decide]
  refine sN_addWord_3 (fun z => absurd z (by decide)) (fun _ => ?_)
  refine sN_addWord_7 (hx' hT2) (by omega) (Nat.le_of_ble_eq_true rfl) hT2.1.is (by rw [zBy_c0 w 8 8 (by decide)]; exact ti_app0 hC.1.1 (by omega) h16 hT2 (zBy_lt _ _) (by rw [List.length_append, List.length_append]; simp only [List.length_cons, List.length_nil]; omega) (by decide) hR') ?_
  rintro q H3 - ⟨rfl, v3, m3, hT3⟩ - - -
  refine sN_addWord_22 rfl ?_
  rw [show (8 : Int32) + (-8) = 0 from by decide]
  refine sN_addWord_3 (fun z => absurd z (by decide)) (fun _ => ?_)
  refine sN_addWord_7 (hx' hT3) (by omega) (Nat.le_of_ble_eq_true rfl) hT3.1.is (by rw [zBy_c0 w 0 0 (by decide)]; exact ti_app0 hC.1.1 (by omega) h16 hT3 (zBy_lt _ _) (by rw [List.length_append, List.length_append, List.length_append]; simp only [List.length_cons, List.length_nil]; omega) (by decide) hR') ?_
  rintro q H4 - ⟨rfl, v4, m4, hT4⟩ - - -
  refine sN_addWord_22 rfl ?_
  rw [show (0 : Int32) + (-8) = -8 from by decide]
  refine sN_addWord_3 (fun _ => ?_) (fun z => absurd (by decide) z)
  refine sN_addWord_29 ⟨rfl, v4, m4, ?_⟩
  have e : u ++ [zBy w 24] ++ [zBy w 16] ++ [zBy w 8] ++ [zBy w 0] = u ++ zWb w := by unfold zWb; simp only [List.append_assoc]; rfl
  rw [e] at hT4
  exact hT4
theorem zPost.same {o : zOo} {k : Int32} (hk : k = o.1) (h : zDk G K R M H o.2.1 o.2.2.1 o.2.2.2.1 o.2.2.2.2) {cc ss : Nat} : zPost G K R M H o cc ss (some (.int k)) H := ⟨k, rfl, hk, R, M, h, zSx.rf.le (Nat.zero_le _) (Nat.zero_le _)⟩
theorem c_N_feed (hC : zCv G) (hd : 7 ≤ d) (h : zDk G K R M H T D Q C) (hn : T.1.length ≤ 2000) (hR : zRm G H 223 12000) (a b c e f : Int32) : zC G d M_N_feed [.ref (K 0), .int a, .int b, .int c, .int e, .int f] H (zPost G K R M H (oFeed a b c e f T D Q C) 0 0) := by
  obtain ⟨h0, h1, ⟨vb, cm, fm, wr, wf, hO, hI⟩, ⟨t0, t16, t8, v, t1, t2⟩, h4, h5, h6, h7, h8, h9⟩ := id h
  have kn : ∀ q ∈ R 1, K 0 ≠ q := fun q z e => h0.2 0 1 (by omega) (by omega) (by omega) _ h1 (e ▸ z)
  have hx : zFd G H (K 0) 0 0 (.ref (K 1)) := hO.fd rfl
  have hx' : ∀ {Hx : Heap} {vx mx : Nat} {ux : List Nat}, zTi G H (K 1) v (M 1) 2000 Hx vx mx ux → zFd G Hx (K 0) 0 0 (.ref (K 1)) ∧ zIs G Hx (K 0) 0 := fun h => by
    have n1 := kn _ t0
    have n2 := kn _ t1
    exact ⟨hx.mo h.2.2.2.2.1 (by simp only [List.mem_cons, List.not_mem_nil, or_false]; omega), hO.is.mo h.2.2.2.2.1 (by simp only [List.mem_cons, List.not_mem_nil, or_false]; omega)⟩
  have lw : ∀ w : Int32, (zWb w).length = 4 := fun w => rfl
  refine zC_in [some (.ref (K 0)), some (.int a), some (.int b), some (.int c), some (.int e), some (.int f)] pn_N_feed hC.1.1.1 rfl (Nat.le_of_ble_eq_true rfl) rfl (fun ho => ?_)
  refine sN_feed_0 hx (by omega) (Nat.le_of_ble_eq_true rfl) t2.is (c_Sb_length hC.1.1 (by omega) t2) ?_
  rintro q H1 ⟨rfl, rfl⟩ - - -
  unfold oFeed
  by_cases e0 : 1980 < T.1.length
  · rw [if_pos e0]
    exact sN_feed_7 (fun z => absurd z (nI_ge (a := 1980) e0 (by omega))) (fun _ => sN_feed_13 (zPost.same rfl h))
  · rw [if_neg e0]
    refine sN_feed_7 (fun _ => ?_) (fun z => absurd (nI_le (b := 1980) (by omega) (by decide)) z)
    have B0 : zTi G H1 (K 1) v (M 1) 2000 H1 v (M 1) T.1 := ti_0 t2
    refine sN_feed_15 (by omega) (Nat.le_of_ble_eq_true rfl) (hx' B0).2 (c_N_addWord hC (by omega) t16 B0 hx (kn _ t0) (kn _ t1) (by omega) hR) ?_
    rintro H2 ⟨v2, m2, B2⟩ - - -
    refine sN_feed_20 (by omega) (Nat.le_of_ble_eq_true rfl) (hx' B2).2 (c_N_addWord hC (by omega) t16 B2 hx (kn _ t0) (kn _ t1) (by simp only [List.length_append, lw]; omega) hR) ?_
    rintro H3 ⟨v3, m3, B3⟩ - - -
    refine sN_feed_25 (by omega) (Nat.le_of_ble_eq_true rfl) (hx' B3).2 (c_N_addWord hC (by omega) t16 B3 hx (kn _ t0) (kn _ t1) (by simp only [List.length_append, lw]; omega) hR) ?_
    rintro H4 ⟨v4, m4, B4⟩ - - -
    refine sN_feed_30 (by omega) (Nat.le_of_ble_eq_true rfl) (hx' B4).2 (c_N_addWord hC (by omega) t16 B4 hx (kn _ t0) (kn _ t1) (by simp only [List.length_append, lw]; omega) hR) ?_
    rintro H5 ⟨v5, m5, B5⟩ - - -
    refine sN_feed_36 (by omega) (Nat.le_of_ble_eq_true rfl) (hx' B5).2 (c_N_addWord hC (by omega) t16 B5 hx (kn _ t0) (kn _ t1) (by simp only [List.length_append, lw]; omega) hR) ?_
    rintro H6 ⟨v6, m6, B6⟩ ho6 - -
    refine sN_feed_42 (hx' B6).1 (by omega) (Nat.le_of_ble_eq_true rfl) B6.1.is (c_Sb_length hC.1.1 (by omega) B6.1) ?_
    rintro q H7 ⟨rfl, rfl⟩ - - -
    obtain ⟨k1, k2, k3⟩ := zSr_of (c := 1) (R := R) t0 t16 t8 (by decide) B6 t1
    have D6 := h.p1 k3 k1 ho ho6 k2
    have hm := B6.2.2.1
    refine sN_feed_49 ⟨_, rfl, ?_, _, _, D6, zSx.one (c := 1) (by omega) k1 k3 (by rw [zPh_1]; unfold zPh; omega) (by rw [zPh_1]; unfold zPh; exact B6.2.2.2.2.2.le (by omega) (by omega))⟩
    simp only [List.length_append, lw]
theorem c_N_end (hC : zCv G) (hd : 6 ≤ d) (h : zDk G K R M H T D Q C) (hn : T.1.length ≤ 2000) (n : Int32) : zC G d M_N_end [.ref (K 0), .int n] H (zPost G K R M H (oEnd n T D Q C) 0 0) := by
  obtain ⟨h0, h1, ⟨vb, cm, fm, wr, wf, hO, hI⟩, ⟨t0, t16, t8, v, t1, t2⟩, h4, h5, h6, h7, h8, h9⟩ := id h
  refine zC_in [some (.ref (K 0)), some (.int n)] pn_N_end hC.1.1.1 rfl (Nat.le_of_ble_eq_true rfl) rfl (fun ho => ?_)
  unfold oEnd
  refine sN_end_0 (fun z => ?_) (fun z => ?_)
  · rw [if_pos (Or.inl z)]
    exact sN_end_15 (zPost.same rfl h)
  · obtain ⟨j, hj, rfl⟩ := nI_of z
    refine sN_end_4 (hO.fd rfl) (by omega) (Nat.le_of_ble_eq_true rfl) t2.is (c_Sb_length hC.1.1 (by omega) t2) ?_
    rintro q H1 ⟨rfl, rfl⟩ - - -
    refine sN_end_12 (fun w => ?_) (fun w => ?_)
    · have hle := (nI_leI (by omega) (by omega)).mp w
      rw [if_neg (fun y => y.elim z (fun y2 => absurd ((nI_ltI (by omega) (by omega)).mp y2) (by omega))), nI_clamp (by omega)]
      refine sN_end_17 (hO.fd rfl) (by omega) (Nat.le_of_ble_eq_true rfl) t2.is (c_Sb_setLength hC.1.1 (by omega) t2 hle) ?_
      rintro H2 ⟨g1, g2, g3⟩ ho2 - -
      have m1 : zMo (R 1) H1 H2 := g2.mono (fun q z => Or.inl (by rw [List.mem_singleton.mp z]; exact t0))
      have D1 := h.p1 m1 (zRs.rf (R := R)) ho ho2 (m := M 1) ⟨t0, t16, t8, v, t1, g1⟩
      rw [upd_same] at D1
      exact sN_end_25 ⟨_, rfl, rfl, R, M, D1, zSx.one (c := 1) (by omega) zRs.rf m1 (Nat.le_refl _) (g3.le (by omega) (by omega))⟩
    · rw [if_pos (Or.inr (by
        rcases Nat.lt_or_ge T.1.length j with y | y
        · exact nI_lt y (by omega)
        · exact absurd (nI_le y (by omega)) w))]
      exact sN_end_15 (zPost.same rfl h)
theorem zAtI_in {t : List Nat} {i : Nat} (h : i < t.length) (hl : t.length < 2 ^ 31) : zAtI t (nI i) = nI (t.getD i 0) := by
  unfold zAtI
  rw [if_neg (fun y => y.elim (nI_pos (by omega)) (fun y2 => nI_ge h hl y2)), nI_clamp (by omega)]
theorem zAtI_out {t : List Nat} {i : Nat} (h : t.length ≤ i) (hl : i < 2 ^ 31) : zAtI t (nI i) = -1 := if_pos (Or.inr (nI_le h hl))
theorem zAtI_neg {t : List Nat} {i : Int32} (h : i < 0) : zAtI t i = -1 := if_pos (Or.inl h)
theorem c_N_out (hC : zCv G) (hd : 4 ≤ d) (h : zDk G K R M H T D Q C) (n : Int32) : zC G d M_N_out [.ref (K 0), .int n] H (zPost G K R M H (oOut n T D Q C) 0 0) := by
  obtain ⟨h0, h1, ⟨vb, cm, fm, wr, wf, hO, hI⟩, h3, ⟨t0, t16, t8, v, t1, t2⟩, h5, h6, h7, h8, h9⟩ := id h
  have hl := t2.len
  refine zC_in [some (.ref (K 0)), some (.int n)] pn_N_out hC.1.1.1 rfl (Nat.le_of_ble_eq_true rfl) rfl (fun ho => ?_)
  refine sN_out_0 (fun z => ?_) (fun z => ?_)
  · exact sN_out_15 (zPost.same (zAtI_neg z).symm h)
  · obtain ⟨j, hj, rfl⟩ := nI_of z
    refine sN_out_4 (hO.fd rfl) (by omega) (Nat.le_of_ble_eq_true rfl) t2.is (c_Sb_length hC.1.1 (by omega) t2) ?_
    rintro q H1 ⟨rfl, rfl⟩ - - -
    refine sN_out_12 (fun w => ?_) (fun w => ?_)
    · have hlt := (nI_ltI (by omega) (by omega)).mp w
      refine sN_out_17 (hO.fd rfl) (by omega) (Nat.le_of_ble_eq_true rfl) t2.is (c_Sb_charAt hC.1.1 (by omega) t2 hlt) ?_
      rintro q H2 ⟨rfl, rfl⟩ - - -
      exact sN_out_25 (zPost.same (zAtI_in hlt (by omega)).symm h)
    · have hge : T.2.1.length ≤ j := by
        rcases Nat.lt_or_ge j T.2.1.length with y | y
        · exact absurd (nI_lt y (by omega)) w
        · exact y
      exact sN_out_15 (zPost.same (zAtI_out hge hj).symm h)
theorem c_N_body (hC : zCv G) (hd : 4 ≤ d) (h : zDk G K R M H T D Q C) (n : Int32) : zC G d M_N_body [.ref (K 0), .int n] H (zPost G K R M H (oBody n T D Q C) 0 0) := by
  obtain ⟨h0, h1, ⟨vb, cm, fm, wr, wf, hO, hI1, hI2, hI3, hI4, hI5⟩, h3⟩ := id h
  obtain ⟨y0, y1, y2, p, n1, v1, c1, w1, g0, g1, g2, g3, g4, g5, g6, i0, i1, i2, i3, i4⟩ := hI3
  have hl := i4.le
  refine zC_in [some (.ref (K 0)), some (.int n)] pn_N_body hC.1.1.1 rfl (Nat.le_of_ble_eq_true rfl) rfl (fun ho => ?_)
  refine sN_body_0 (fun z => ?_) (fun z => ?_)
  · exact sN_body_18 (zPost.same (zAtI_neg z).symm h)
  · obtain ⟨j, hj, rfl⟩ := nI_of z
    refine sN_body_4 (hO.fd rfl) g6 (by omega) (Nat.le_of_ble_eq_true rfl) i4.is (c_St_length hC.1.1 (by omega) i4) ?_
    rintro q H1 ⟨rfl, rfl⟩ - - -
    refine sN_body_15 (fun w => ?_) (fun w => ?_)
    · have hlt := (nI_ltI (by omega) (by omega)).mp w
      refine sN_body_20 (hO.fd rfl) g6 (by omega) (Nat.le_of_ble_eq_true rfl) i4.is (c_St_charAt hC.1.1 (by omega) i4 hlt) ?_
      rintro q H2 ⟨rfl, rfl⟩ - - -
      exact sN_body_31 (zPost.same (zAtI_in hlt (by omega)).symm h)
    · have hge : C.1.2.2.2.2.2.length ≤ j := by
        rcases Nat.lt_or_ge j C.1.2.2.2.2.2.length with y | y
        · exact absurd (nI_lt y (by omega)) w
        · exact y
      exact sN_body_18 (zPost.same (zAtI_out hge hj).symm h)
theorem c_N_tick (hC : zCv G) (h : zDk G K R M H T D Q C) (hclk : D.2.2.2 < 2 ^ 29) (n : Int32) : zC G d M_N_tick [.ref (K 0), .int n] H (zPost G K R M H (oTick n T D Q C) 0 0) := by
  obtain ⟨h0, h1, ⟨vb, cm, fm, wr, wf, hO, hI⟩, h3⟩ := id h
  refine zC_in [some (.ref (K 0)), some (.int n)] pn_N_tick hC.1.1.1 rfl (Nat.le_of_ble_eq_true rfl) rfl (fun ho => ?_)
  unfold oTick
  refine sN_tick_0 (fun z => ?_) (fun z => ?_)
  · rw [if_pos (Or.inl z)]
    exact sN_tick_11 (zPost.same rfl h)
  · obtain ⟨j, hj, rfl⟩ := nI_of z
    refine sN_tick_4 (fun w => ?_) (fun w => ?_)
    · have hle := (nI_leI (b := 1000) (by omega) (by decide)).mp w
      rw [if_neg (fun y => y.elim z (fun y2 => absurd ((nI_ltI (a := 1000) (by decide) (by omega)).mp y2) (by omega))), nI_clamp (by omega)]
      refine sN_tick_13 (hO.fd rfl) hO h.fr (fun H1 g1 u1 => ?_)
      rw [nI_add] at g1
      have ho1 := u1.ok h.fr ho
      have hS : ∀ q ∈ [K 0], q ∈ zRL R ∨ H.size ≤ q := fun q z => Or.inl (by rw [List.mem_singleton.mp z]; exact zRL_mem (by omega) h1)
      have D1 := h.px u1 ho ho1 (b := T.2.2) (clk := D.2.2.2 + j) (rq := Q.1) (ra := Q.2.1) (C' := C) ⟨vb, cm, fm, wr, wf, g1, hI.st u1.mo hS (fun q z => Or.inl z)⟩
      refine sN_tick_23 (g1.fd rfl) ⟨_, rfl, rfl, R, M, D1, zSx.one (c := 0) (by omega) zRs.rf (u1.mo.mono (fun q z => Or.inl (by rw [List.mem_singleton.mp z]; exact h1))) (Nat.le_refl _) u1.us⟩
    · rw [if_pos (Or.inr (by
        rcases Nat.lt_or_ge 1000 j with y | y
        · exact nI_lt (a := 1000) y (by omega)
        · exact absurd (nI_le (b := 1000) y (by decide)) w))]
      exact sN_tick_11 (zPost.same rfl h)
theorem w_out {x : Int32} {lo hi : Int} (h : ∀ k : Int, lo ≤ k → k ≤ hi → x.toInt ≠ k) : x.toInt < lo ∨ hi < x.toInt := by
  by_cases w : x.toInt < lo
  · exact Or.inl w
  · by_cases y : hi < x.toInt
    · exact Or.inr y
    · exact absurd rfl (h x.toInt (by omega) (by omega))
theorem c_N_count (hC : zCv G) (hd : 2 ≤ d) (h : zDk G K R M H T D Q C) (n : Int32) : zC G d M_N_count [.ref (K 0), .int n] H (zPost G K R M H (oCount n T D Q C) 0 0) := by
  obtain ⟨h0, h1, ⟨vb, cm, fm, wr, wf, hO, hI1, hI2, hI3, hI4, hI5⟩, h3, h4, h5, h6, h7, h8, h9⟩ := id h
  obtain ⟨y0, y1, y2, p, n1, v1, c1, w1, g0, g1, g2, g3, g4, g5, g6, i0, i1, i2, i3, i4⟩ := hI3
  obtain ⟨f1, f2, f3, f4, f5, f6, f7, f8⟩ := h9
  refine zC_in [some (.ref (K 0)), some (.int n)] pn_N_count hC.1.1.1 rfl (Nat.le_of_ble_eq_true rfl) rfl (fun ho => ?_)
  refine zw_iload_n (j := 1) (i := 1) dN_count_0 rfl rfl ?_
  unfold oCount
  by_cases q0 : n = 0
  · subst q0
    refine zw_tableIn 48 dN_count_1 (by decide) (by decide) rfl rfl ?_
    refine sN_count_48 (hO.fd rfl) (by omega) (Nat.le_of_ble_eq_true rfl) h6.is (v_size hC.1.1 h6) ?_
    rintro q H1 ⟨rfl, rfl⟩ - - -
    exact sN_count_55 (zPost.same rfl h)
  rw [if_neg q0]
  by_cases q1 : n = 1
  · subst q1
    refine zw_tableIn 56 dN_count_1 (by decide) (by decide) rfl rfl ?_
    refine sN_count_56 (hO.fd rfl) (by omega) (Nat.le_of_ble_eq_true rfl) f2 (c_Jr_size hC (by omega) f3 h7) ?_
    rintro q H1 ⟨rfl, rfl⟩ - - -
    exact sN_count_63 (zPost.same rfl h)
  rw [if_neg q1]
  by_cases q2 : n = 2
  · subst q2
    refine zw_tableIn 64 dN_count_1 (by decide) (by decide) rfl rfl ?_
    refine sN_count_64 (hO.fd rfl) (by omega) (Nat.le_of_ble_eq_true rfl) f5 (c_Kp_size hC (by omega) f6 h8) ?_
    rintro q H1 ⟨rfl, rfl⟩ - - -
    exact sN_count_71 (zPost.same rfl h)
  rw [if_neg q2]
  by_cases q3 : n = 3
  · subst q3
    refine zw_tableIn 72 dN_count_1 (by decide) (by decide) rfl rfl ?_
    exact sN_count_72 (hO.fd rfl) (zPost.same rfl h)
  rw [if_neg q3]
  by_cases q4 : n = 4
  · subst q4
    refine zw_tableIn 77 dN_count_1 (by decide) (by decide) rfl rfl ?_
    exact sN_count_77 (hO.fd rfl) (zPost.same rfl h)
  rw [if_neg q4]
  by_cases q5 : n = 5
  · subst q5
    refine zw_tableIn 82 dN_count_1 (by decide) (by decide) rfl rfl ?_
    exact sN_count_82 (hO.fd rfl) (zPost.same rfl h)
  rw [if_neg q5]
  by_cases q6 : n = 6
  · subst q6
    refine zw_tableIn 87 dN_count_1 (by decide) (by decide) rfl rfl ?_
    cases hb : C.1.2.2.2.2.1 with
    | true =>
      rw [hb] at g5
      exact sN_count_87 (hO.fd rfl) g5 (fun z => absurd z (by decide)) (fun _ => sN_count_97 (zPost.same rfl h))
    | false =>
      rw [hb] at g5
      exact sN_count_87 (hO.fd rfl) g5 (fun _ => sN_count_101 (zPost.same rfl h)) (fun z => absurd rfl z)
  rw [if_neg q6]
  by_cases q7 : n = 7
  · subst q7
    refine zw_tableIn 103 dN_count_1 (by decide) (by decide) rfl rfl ?_
    cases hb : C.2.2.2.2 with
    | true => exact sN_count_103 (hO.fd rfl) (fun z => absurd z (by rw [hb]; decide)) (fun _ => sN_count_110 (zPost.same rfl h))
    | false => exact sN_count_103 (hO.fd rfl) (fun _ => sN_count_114 (zPost.same rfl h)) (fun z => absurd (by rw [hb]; rfl) z)
  rw [if_neg q7]
  refine zw_tableOut 116 dN_count_1 (w_out (fun k a b e => ?_)) rfl ?_
  · have e0 := zNe q0 0 (by decide)
    have e1 := zNe q1 1 (by decide)
    have e2 := zNe q2 2 (by decide)
    have e3 := zNe q3 3 (by decide)
    have e4 := zNe q4 4 (by decide)
    have e5 := zNe q5 5 (by decide)
    have e6 := zNe q6 6 (by decide)
    have e7 := zNe q7 7 (by decide)
    omega
  · exact sN_count_116 (zPost.same rfl h)
theorem c_N_placeOfAnswer (hC : zCv G) (hd : 3 ≤ d) (h : zDk G K R M H T D Q C) {L2 : List Nat} {b : Nat} {A : zA} (hA : zAd G L2 H b A) (hw : zWf A) (hD : zDDW D) : zC G d M_N_placeOfAnswer [.ref (K 0), .ref b] H (zRd H (if zFi (zAsp (zPl A)) D.1 < D.1.length then nI (zFi (zAsp (zPl A)) D.1) else -1)) := by
  obtain ⟨h0, h1, ⟨vb, cm, fm, wr, wf, hO, hI⟩, h3, h4, h5, hV, h7, h8, h9⟩ := id h
  have hlen := hD.2.1
  have hx : zFd G H (K 0) 0 4 (.ref (K 4)) := hO.fd rfl
  refine zC_in [some (.ref (K 0)), some (.ref b), none] pn_N_placeOfAnswer hC.1.1.1 rfl (Nat.le_of_ble_eq_true rfl) rfl (fun ho => ?_)
  refine sN_placeOfAnswer_0 ?_
  have main : ∀ (k i : Nat), i + k = D.1.length → (∀ l (hl : l < D.1.length), l < i → zAsp (zPl A) D.1[l] = false) → zW G d M_N_placeOfAnswer 2 [some (.ref (K 0)), some (.ref b), some (.int (nI i))] [] H (zRd H (if zFi (zAsp (zPl A)) D.1 < D.1.length then nI (zFi (zAsp (zPl A)) D.1) else -1)) := by
    intro k
    induction k with
    | zero =>
      intro i hi hno
      have hfi : zFi (zAsp (zPl A)) D.1 = D.1.length := fi_eq (Nat.le_refl _) (fun l hl _ => hno l hl (by omega)) (fun z => absurd z (Nat.lt_irrefl _))
      refine sN_placeOfAnswer_2 hx (by omega) (Nat.le_of_ble_eq_true rfl) hV.is (v_size hC.1.1 hV) ?_
      rintro q H2 ⟨rfl, rfl⟩ - - -
      refine sN_placeOfAnswer_10 (fun _ => ?_) (fun z => absurd (nI_le (by omega) (by omega)) z)
      refine sN_placeOfAnswer_42 ⟨_, rfl, ?_, rfl⟩
      rw [if_neg (by omega)]
    | succ k ih =>
      intro i hi hno
      have hiL : i < D.1.length := (by omega)
      refine sN_placeOfAnswer_2 hx (by omega) (Nat.le_of_ble_eq_true rfl) hV.is (v_size hC.1.1 hV) ?_
      rintro q H2 ⟨rfl, rfl⟩ - - -
      refine sN_placeOfAnswer_10 (fun z => absurd z (nI_ge (by omega) (by omega))) (fun _ => ?_)
      refine sN_placeOfAnswer_13 hx (by omega) (Nat.le_of_ble_eq_true rfl) hV.is (v_get hC.1.1 (by omega) hV (i := i) hiL) ?_
      rintro q H3 - ⟨x, rfl, hx2, rfl⟩ - - -
      obtain ⟨y0, y1, y2, p, n, v, c, w, g0, g1, g2, g3, g4, g5, g6, t0, t1, t2, t3, t4⟩ := id hx2
      refine sN_placeOfAnswer_21 zRf_ref y2 g0 (by omega) (Nat.le_of_ble_eq_true rfl) t0.2.1 (c_Ad_isSamePlace hC (by omega) t0 hA (hD.1 D.1[i] (List.getElem_mem _)).1 hw) ?_
      rintro q H4 ⟨rfl, rfl⟩ - - -
      by_cases e : zPl D.1[i].1 = zPl A
      · rw [if_pos e]
        have hfi : zFi (zAsp (zPl A)) D.1 = i := fi_eq (Nat.le_of_lt hiL) hno (fun _ => by unfold zAsp; rw [e]; simp)
        refine sN_placeOfAnswer_31 (fun z => absurd z (by decide)) (fun _ => sN_placeOfAnswer_34 ⟨_, rfl, ?_, rfl⟩)
        rw [hfi, if_pos hiL]
      · rw [if_neg e]
        refine sN_placeOfAnswer_31 (fun _ => sN_placeOfAnswer_36 ?_) (fun z => absurd rfl z)
        rw [nI_1]
        refine ih (i + 1) (by omega) (fun l hl hli => ?_)
        by_cases z : l = i
        · subst z; unfold zAsp; simp [e]
        · exact hno l hl (by omega)
  exact main D.1.length 0 (by omega) (fun l hl h0 => absurd h0 (Nat.not_lt_zero _))
end KO
