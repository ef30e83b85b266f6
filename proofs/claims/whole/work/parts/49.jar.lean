/-- a builder at o, since the heap H: its text is u now -/
def zTi (G : zG) (H : Heap) (o v m N : Nat) (H' : Heap) (v' m' : Nat) (u : List Nat) : Prop := zSB G H' o v' m' u ∧ (v' = v ∨ H.size ≤ v') ∧ m ≤ m' ∧ (m' = m ∨ m' ≤ 2 * N) ∧ zMo [o, v] H H' ∧ zUs ((m' - m) / 18) (2 * (m' - m)) H H'
theorem nI_nm1 {n : Nat} (h : n < 2 ^ 31) : ¬ nI n = -1 := fun z => by
  have := nI_pos' h
  rw [z] at this
  exact absurd this (by decide)
section KJ
variable {G : zG} {d : Nat} {L r : List Nat} {H H' : Heap} {a b o v m N v' m' s j : Nat} {u w t x site : List Nat} {A : zA} {cs : List zCk} {ks : List zKe}
theorem ti_0 (h : zSB G H o v m u) : zTi G H o v m N H v m u := ⟨h, Or.inl rfl, Nat.le_refl _, Or.inl rfl, zMo.rf, zUs.rf⟩
theorem ti_app1 (hC : zCs G) (hd : 5 ≤ d) (h16 : 16 ≤ m) (h : zTi G H o v m N H' v' m' u) (hs : zTx G [o, v'] H' s w) (hN : u.length + w.length ≤ N) (hN2 : N ≤ 16000) (hR : zRm G H (N / 9 + 1) (6 * N)) : zC G d M_Sb_append_1 [.ref o, .ref s] H' (zPr fun k H2 => k = .ref o ∧ ∃ v2 m2, zTi G H o v m N H2 v2 m2 (u ++ w)) := by
  obtain ⟨h1, h2, h3, h4, h5, h6⟩ := h
  refine zC_mono (c_Sb_append1 hC hd h1 hs (by omega) (hR.us h6 _ _ (by omega) (by omega))) ?_
  rintro q H2 ⟨k, rfl, hk, rfl, v2, m2, g1, g2, g3, g4, g5, g6⟩
  have e5 := h5.1
  exact ⟨_, rfl, hk, rfl, v2, m2, g1, (by omega), (by omega), (by omega), h5.tr g5 (fun _ z => Or.inl z) (fun q z => by simp only [List.mem_cons, List.not_mem_nil, or_false] at z ⊢; omega), h6.tr g6 (by omega) (by omega)⟩
theorem ti_app0 (hC : zCs G) (hd : 5 ≤ d) (h16 : 16 ≤ m) (h : zTi G H o v m N H' v' m' u) {c : Nat} (hc : c < 256) (hN : u.length + 1 ≤ N) (hN2 : N ≤ 16000) (hR : zRm G H (N / 9 + 1) (6 * N)) : zC G d M_Sb_append_0 [.ref o, .int (nI c)] H' (zPr fun k H2 => k = .ref o ∧ ∃ v2 m2, zTi G H o v m N H2 v2 m2 (u ++ [c])) := by
  obtain ⟨h1, h2, h3, h4, h5, h6⟩ := h
  refine zC_mono (c_Sb_append0 hC hd h1 hc (by omega) (hR.us h6 _ _ (by omega) (by omega))) ?_
  rintro q H2 ⟨k, rfl, hk, rfl, v2, m2, g1, g2, g3, g4, g5, g6⟩
  have e5 := h5.1
  exact ⟨_, rfl, hk, rfl, v2, m2, g1, (by omega), (by omega), (by omega), h5.tr g5 (fun _ z => Or.inl z) (fun q z => by simp only [List.mem_cons, List.not_mem_nil, or_false] at z ⊢; omega), h6.tr g6 (by omega) (by omega)⟩
/-- what never changes, seen from the builder's heap -/
theorem ti_tx (h : zTi G H o v m N H' v' m' u) (hs : zTx G [o, v] H s w) : zTx G [o, v'] H' s w := by
  have h2 := h.2.1
  exact hs.st h.2.2.2.2.1 (fun _ z => Or.inl z) (fun q z => by simp only [List.mem_cons, List.not_mem_nil, or_false] at z ⊢; omega)
theorem ti_ad (h : zTi G H o v m N H' v' m' u) (hs : zAd G [o, v] H a A) : zAd G [o, v'] H' a A := by
  have h2 := h.2.1
  exact hs.st h.2.2.2.2.1 (fun _ z => Or.inl z) (fun q z => by simp only [List.mem_cons, List.not_mem_nil, or_false] at z ⊢; omega)
theorem c_Ad_appendTo (hC : zCv G) (hd : 6 ≤ d) (h16 : 16 ≤ m) (h : zTi G H o v m N H' v' m' u) (hA : zAd G [o, v] H a A) (hL : zLi G H [o, v]) (hN : u.length + (zPl A).length ≤ N) (hN2 : N ≤ 16000) (hR : zRm G H (N / 9 + 1) (6 * N)) : zC G d M_Ad_appendTo [.ref a, .ref o] H' (zPv fun H2 => ∃ v2 m2, zTi G H o v m N H2 v2 m2 (u ++ zPl A)) := by
  have hpl : (zPl A).length = 2 + A.1.length + (zFlat A.2.1).length + A.2.2.1.length := by
    unfold zPl
    rw [List.length_append, List.length_append, List.length_append]
    rfl
  have e5 := h.2.2.2.2.1.1
  have h2 := h.2.1
  have hlv := h.1.lt
  have hL' : zLi G H' [o, v'] := fun q z => by
    rcases List.mem_cons.mp z with rfl | z
    · exact ⟨h.1.2.1, hlv.1⟩
    · rw [List.mem_singleton.mp z]; exact ⟨h.1.2.2.1, hlv.2⟩
  refine zC_in [some (.ref a), some (.ref o)] pn_Ad_appendTo hC.1.1.1 rfl (Nat.le_of_ble_eq_true rfl) rfl (fun ho => ?_)
  obtain ⟨k0, lt0, tx0⟩ := hC.li (L := [o, v']) ho hL' 4 rfl
  refine sAd_appendTo_0 lt0 (by omega) (Nat.le_of_ble_eq_true rfl) h.1.is (ti_app1 hC.1.1 (by omega) h16 h tx0 (by simp only [List.length_cons, List.length_nil]; omega) hN2 hR) ?_
  rintro k H1 - ⟨rfl, v1, m1, g1⟩ ho1 hs1 -
  obtain ⟨a1, a2, cs, cp, cq, ck, a3, a4, a5, a6, a7, a8, a9, a10⟩ := ti_ad g1 hA
  have l1 : (u ++ [47, 47]).length = u.length + 2 := by rw [List.length_append]; rfl
  refine sAd_appendTo_6 rfl zRf_ref a3 (by omega) (Nat.le_of_ble_eq_true rfl) g1.1.is (ti_app1 hC.1.1 (by omega) h16 g1 a7 (by rw [l1]; omega) hN2 hR) ?_
  rintro k H2 - ⟨rfl, v2, m2, g2⟩ ho2 hs2 -
  obtain ⟨-, -, ds, dp, dq, dk, b3, b4, b5, b6, b7, b8, b9, b10⟩ := ti_ad g2 hA
  have l2 : (u ++ [47, 47] ++ A.1).length = u.length + 2 + A.1.length := by rw [List.length_append, l1]
  refine sAd_appendTo_15 rfl zRf_ref b4 (by omega) (Nat.le_of_ble_eq_true rfl) g2.1.is (ti_app1 hC.1.1 (by omega) h16 g2 b8 (by rw [l2]; omega) hN2 hR) ?_
  rintro k H3 - ⟨rfl, v3, m3, g3⟩ ho3 hs3 -
  obtain ⟨-, -, es, ep, eq, ek, c3, c4, c5, c6, c7, c8, c9, c10⟩ := ti_ad g3 hA
  have l3 : (u ++ [47, 47] ++ A.1 ++ zFlat A.2.1).length = u.length + 2 + A.1.length + (zFlat A.2.1).length := by rw [List.length_append, l2]
  refine sAd_appendTo_24 rfl zRf_ref c5 (by omega) (Nat.le_of_ble_eq_true rfl) g3.1.is (ti_app1 hC.1.1 (by omega) h16 g3 c9 (by rw [l3]; omega) hN2 hR) ?_
  rintro k H4 - ⟨rfl, v4, m4, g4⟩ ho4 hs4 -
  have e : u ++ [47, 47] ++ A.1 ++ zFlat A.2.1 ++ A.2.2.1 = u ++ zPl A := by unfold zPl; simp only [List.append_assoc]
  rw [e] at g4
  exact sAd_appendTo_33 rfl ⟨rfl, v4, m4, g4⟩
theorem c_Ck_init (hC : zCv G) (hd : 1 ≤ d) {b0 b1 b2 : Value} {c1 c2 c3 : Nat} {t1 t2 t3 : List Nat} (hO : zObj G H o 11 [b0, b1, b2]) (hof : zFr G o) (hoL : o ∉ L) (h1 : zTx G (o :: L) H c1 t1) (h2 : zTx G (o :: L) H c2 t2) (h3 : zTx G (o :: L) H c3 t3) : zC G d M_Ck_init [.ref o, .ref c1, .ref c2, .ref c3] H (zPv fun H1 => zCkO G L H1 o (t1, t2, t3) ∧ zMo [o] H H1 ∧ zUs 0 0 H H1) := by
  refine zC_in [some (.ref o), some (.ref c1), some (.ref c2), some (.ref c3)] pn_Ck_init hC.1.1.1 rfl (Nat.le_of_ble_eq_true rfl) rfl (fun ho => ?_)
  refine sCk_init_0 (by omega) (Nat.le_of_ble_eq_true rfl) ?_
  refine sCk_init_4 zRf_ref hO hof (fun H1 g1 u1 => ?_)
  refine sCk_init_9 zRf_ref g1 hof (fun H2 g2 u2 => ?_)
  refine sCk_init_14 zRf_ref g2 hof (fun H3 g3 u3 => ?_)
  have mm : zMo [o] H H3 := (u1.mo.up u2 (Or.inl mem1)).up u3 (Or.inl mem1)
  have uu : zUs 0 0 H H3 := ⟨by have := u1.1; have := u2.1; have := u3.1; omega, by have := u1.2.1; have := u2.2.1; have := u3.2.1; omega⟩
  have hS : ∀ q ∈ [o], q ∈ o :: L ∨ H.size ≤ q := fun q z => Or.inl (by rw [List.mem_singleton.mp z]; exact List.mem_cons_self)
  have hT : ∀ q ∈ L, q ∈ o :: L ∨ H.size ≤ q := fun q z => Or.inl (List.mem_cons_of_mem _ z)
  exact sCk_init_19 ⟨rfl, ⟨hof, hoL, g3.is, c1, c2, c3, g3.fd rfl, g3.fd rfl, g3.fd rfl, h1.st mm hS hT, h2.st mm hS hT, h3.st mm hS hT⟩, mm, uu⟩
theorem c_Kt_init (hC : zCv G) (hd : 1 ≤ d) {b0 b1 : Value} {c n : Nat} {α : zAn} (hO : zObj G H o 12 [b0, b1]) (hof : zFr G o) (hoL : o ∉ L) (h1 : zAnO G (o :: L) H c α) : zC G d M_Kt_init [.ref o, .ref c, .int (nI n)] H (zPv fun H1 => zKeO G L H1 o (α, n) ∧ zMo [o] H H1 ∧ zUs 0 0 H H1) := by
  refine zC_in [some (.ref o), some (.ref c), some (.int (nI n))] pn_Kt_init hC.1.1.1 rfl (Nat.le_of_ble_eq_true rfl) rfl (fun ho => ?_)
  refine sKt_init_0 (by omega) (Nat.le_of_ble_eq_true rfl) ?_
  refine sKt_init_4 zRf_ref hO hof (fun H1 g1 u1 => ?_)
  refine sKt_init_9 g1 hof (fun H2 g2 u2 => ?_)
  have mm : zMo [o] H H2 := u1.mo.up u2 (Or.inl mem1)
  have uu : zUs 0 0 H H2 := ⟨by have := u1.1; have := u2.1; omega, by have := u1.2.1; have := u2.2.1; omega⟩
  have hS : ∀ q ∈ [o], q ∈ o :: L ∨ H.size ≤ q := fun q z => Or.inl (by rw [List.mem_singleton.mp z]; exact List.mem_cons_self)
  have hT : ∀ q ∈ L, q ∈ o :: L ∨ H.size ≤ q := fun q z => Or.inl (List.mem_cons_of_mem _ z)
  exact sKt_init_14 ⟨rfl, ⟨hof, hoL, g2.is, c, g2.fd rfl, g2.fd rfl, h1.st mm hS hT⟩, mm, uu⟩
theorem zT1_len {site acc : List Nat} {c : zCk} (h : zCkW c) : (zT1 site acc c).length ≤ acc.length + 18 := by
  have h1 := (zNm_all h.2.1).2.1
  have h2 := (zNm_all h.2.2).2.1
  unfold zT1
  split
  · rw [List.length_append, List.length_append, List.length_append]
    split
    · simp only [List.length_cons, List.length_nil]; omega
    · rw [List.length_append]; simp only [List.length_cons, List.length_nil]; omega
  · omega
theorem zTell_len {site : List Nat} {cs : List zCk} (h : ∀ c ∈ cs, zCkW c) : ∀ i, i ≤ cs.length → (zTell site (cs.take i)).length ≤ 18 * i := by
  intro i
  induction i with
  | zero => intro _; exact Nat.le_refl _
  | succ i ih =>
    intro hi
    rw [tell_take (by omega)]
    have := zT1_len (site := site) (acc := zTell site (cs.take i)) (h cs[i] (List.getElem_mem _))
    have := ih (by omega)
    omega
theorem ti_tr {H2 : Heap} {v2 m2 : Nat} (h : zTi G H o v m N H' v' m' u) (h2 : zTi G H' o v' m' N H2 v2 m2 w) : zTi G H o v m N H2 v2 m2 w := by
  obtain ⟨h1, h2', h3, h4, h5, h6⟩ := h
  obtain ⟨g1, g2, g3, g4, g5, g6⟩ := h2
  have e5 := h5.1
  exact ⟨g1, (by omega), (by omega), (by omega), h5.tr g5 (fun _ z => Or.inl z) (fun q z => by simp only [List.mem_cons, List.not_mem_nil, or_false] at z ⊢; omega), h6.tr g6 (by omega) (by omega)⟩
theorem c_Jr_tell (hC : zCv G) (hd : 7 ≤ d) (h16 : 16 ≤ m) (h : zSB G H o v m []) (hj : zFd G H j 6 0 (.ref a)) (hjo : j ≠ o) (hjv : j ≠ v) {mm : Nat} (hV : zVr G (zCkO G) L H r a mm 11 cs) (hor : o ∉ r) (hvr : v ∉ r) (hoL : o ∈ L) (hvL : v ∈ L) (hs : zTx G L H s site) (hcw : ∀ c ∈ cs, zCkW c) (hlen : cs.length ≤ 20) (hR : zRm G H 100 4200) : zC G d M_Jr_tell [.ref j, .ref s, .ref o] H (zPv fun H1 => ∃ v' m', zTi G H o v m 400 H1 v' m' (zTell site cs)) := by
  have hSL : ∀ q ∈ [o, v], q ∈ L ∨ H.size ≤ q := fun q z => Or.inl (by
    rcases List.mem_cons.mp z with rfl | z
    · exact hoL
    · rw [List.mem_singleton.mp z]; exact hvL)
  refine zC_in [some (.ref j), some (.ref s), some (.ref o), none, none] pn_Jr_tell hC.1.1.1 rfl (Nat.le_of_ble_eq_true rfl) rfl (fun ho => ?_)
  refine sJr_tell_0 ?_
  have look : ∀ (H' : Heap) (v' m' : Nat) (u : List Nat), zTi G H o v m 400 H' v' m' u → zOk G H' → zFd G H' j 6 0 (.ref a) ∧ zVr G (zCkO G) (v' :: L) H' r a mm 11 cs ∧ zTx G (v' :: L) H' s site := by
    intro H' v' m' u hT ho'
    have hmo := hT.2.2.2.2.1
    have h2 := hT.2.1
    have hL2 : ∀ q ∈ v' :: L, q ∈ L ∨ H.size ≤ q := fun q z => by
      rcases List.mem_cons.mp z with rfl | z
      · rcases h2 with rfl | h2
        · exact Or.inl hvL
        · exact Or.inr h2
      · exact Or.inl z
    refine ⟨hj.mo hmo (by simp only [List.mem_cons, List.not_mem_nil, or_false]; omega), zVr.st zKd_ck hV hmo ho ho' (fun q z w => ?_) hSL hL2 (fun q z => z) (fun q z => List.mem_cons_of_mem _ (hV.2.1 q z)), hs.st hmo hSL hL2⟩
    rcases List.mem_cons.mp w with rfl | w
    · exact hor z
    · rw [List.mem_singleton.mp w] at z; exact hvr z
  have main : ∀ (k i : Nat) (H' : Heap) (v' m' : Nat) (o4 : Option Value), i + k = cs.length → zTi G H o v m 400 H' v' m' (zTell site (cs.take i)) → zOk G H' → zW G d M_Jr_tell 2 [some (.ref j), some (.ref s), some (.ref o), some (.int (nI i)), o4] [] H' (zPv fun H1 => ∃ v' m', zTi G H o v m 400 H1 v' m' (zTell site cs)) := by
    intro k
    induction k with
    | zero =>
      intro i H' v' m' o4 hi hT ho'
      obtain ⟨hj', hV', hs'⟩ := look H' v' m' _ hT ho'
      refine sJr_tell_2 hj' (by omega) (Nat.le_of_ble_eq_true rfl) hV'.is (v_size hC.1.1 hV') ?_
      rintro q H2 ⟨rfl, rfl⟩ - - -
      refine sJr_tell_10 (fun _ => ?_) (fun z => absurd (nI_le (by omega) (by omega)) z)
      rw [List.take_of_length_le (by omega)] at hT
      exact sJr_tell_85 ⟨rfl, v', m', hT⟩
    | succ k ih =>
      intro i H' v' m' o4 hi hT ho'
      obtain ⟨hj', hV', hs'⟩ := look H' v' m' _ hT ho'
      have hiL : i < cs.length := (by omega)
      refine sJr_tell_2 hj' (by omega) (Nat.le_of_ble_eq_true rfl) hV'.is (v_size hC.1.1 hV') ?_
      rintro q H2 ⟨rfl, rfl⟩ - - -
      refine sJr_tell_10 (fun z => absurd z (nI_ge (by omega) (by omega))) (fun _ => ?_)
      refine sJr_tell_13 hj' (by omega) (Nat.le_of_ble_eq_true rfl) hV'.is (v_get hC.1.1 (by omega) hV' (i := i) hiL) ?_
      rintro q H3 - ⟨x, rfl, hx, rfl⟩ - - -
      obtain ⟨x0, x1, x2, sx, nx, vx, f0, f1, f2, t0, t1, t2⟩ := id hx
      have hck := hcw cs[i] (List.getElem_mem _)
      have hlx := zTell_len (site := site) hcw i (by omega)
      have n1 := (zNm_all hck.2.1).2.1
      have n2 := (zNm_all hck.2.2).2.1
      have next : ∀ (H' : Heap) (v' m' : Nat) (o4 : Option Value), zTi G H o v m 400 H' v' m' (zT1 site (zTell site (cs.take i)) cs[i]) → zOk G H' → zW G d M_Jr_tell 2 [some (.ref j), some (.ref s), some (.ref o), some (.int (nI i + 1)), o4] [] H' (zPv fun H1 => ∃ v' m', zTi G H o v m 400 H1 v' m' (zTell site cs)) := by
        intro H' v' m' o4 hT ho'
        rw [nI_1]
        exact ih (i + 1) H' v' m' o4 (by omega) (by rw [tell_take hiL]; exact hT) ho'
      refine sJr_tell_21 zRf_ref x2 f0 (by omega) (Nat.le_of_ble_eq_true rfl) t0.is (c_St_equals hC.1.1 (by omega) t0 hs') ?_
      rintro q H4 ⟨rfl, rfl⟩ - - -
      by_cases e : cs[i].1 = site
      · rw [if_pos e]
        refine sJr_tell_35 (fun z => absurd z (by decide)) (fun _ => ?_)
        have h16' : 16 ≤ m' := by have := hT.2.2.1; omega
        have hR' : zRm G H4 (400 / 9 + 1) (6 * 400) := hR.us hT.2.2.2.2.2 _ _ (by have := hT.2.2.2.1; omega) (by have := hT.2.2.2.1; omega)
        have B0 : zTi G H4 o v' m' 400 H4 v' m' (zTell site (cs.take i)) := ti_0 hT.1
        have xo : x ∉ [o, v'] := fun z => x1 (by
          rcases List.mem_cons.mp z with rfl | z
          · exact List.mem_cons_of_mem _ hoL
          · rw [List.mem_singleton.mp z]; exact List.mem_cons_self)
        have li2 : ∀ q ∈ [o, v'], q ∈ v' :: L ∨ H4.size ≤ q := fun q z => Or.inl (by
          rcases List.mem_cons.mp z with rfl | z
          · exact List.mem_cons_of_mem _ hoL
          · rw [List.mem_singleton.mp z]; exact List.mem_cons_self)
        have tn := t1.li li2
        have tv := t2.li li2
        have tail : ∀ (H5 : Heap) (v5 m5 : Nat) (w : Value), zTi G H4 o v' m' 400 H5 v5 m5 ((if zTell site (cs.take i) = [] then [] else zTell site (cs.take i) ++ [59]) ++ cs[i].2.1) → w.category = 1 → zW G d M_Jr_tell 61 [some (.ref j), some (.ref s), some (.ref o), some (.int (nI i)), some (.ref x)] (w :: []) H5 (zPv fun H1 => ∃ v' m', zTi G H o v m 400 H1 v' m' (zTell site cs)) := by
          intro H5 v5 m5 w hT5 hw
          have hl5 : ((if zTell site (cs.take i) = [] then [] else zTell site (cs.take i) ++ [59]) ++ cs[i].2.1).length ≤ 18 * i + 9 := by
            rw [List.length_append]
            split
            · simp only [List.length_nil]; omega
            · rw [List.length_append]; simp only [List.length_cons, List.length_nil]; omega
          refine sJr_tell_61 hw (by omega) (Nat.le_of_ble_eq_true rfl) hT5.1.is (ti_app0 hC.1.1 (by omega) h16' hT5 (c := 61) (by decide) (by omega) (by decide) hR') ?_
          rintro q H6 - ⟨rfl, v6, m6, hT6⟩ ho6 - -
          refine sJr_tell_68 rfl zRf_ref (f2.mo hT6.2.2.2.2.1 xo) (by omega) (Nat.le_of_ble_eq_true rfl) hT6.1.is (ti_app1 hC.1.1 (by omega) h16' hT6 (ti_tx hT6 tv) (by rw [List.length_append]; simp only [List.length_cons, List.length_nil]; omega) (by decide) hR') ?_
          rintro q H7 - ⟨rfl, v7, m7, hT7⟩ ho7 - -
          refine sJr_tell_78 rfl (next H7 v7 m7 _ ?_ ho7)
          unfold zT1
          rw [if_pos e]
          exact ti_tr hT hT7
        refine sJr_tell_38 (by omega) (Nat.le_of_ble_eq_true rfl) B0.1.is (c_Sb_length hC.1.1 (by omega) B0.1) ?_
        rintro q H5 ⟨rfl, rfl⟩ - - -
        by_cases e0 : zTell site (cs.take i) = []
        · rw [if_pos e0] at tail
          rw [e0] at B0 ⊢
          refine sJr_tell_42 (fun _ => ?_) (fun z => absurd (by decide) z)
          refine sJr_tell_52 zRf_ref f1 (by omega) (Nat.le_of_ble_eq_true rfl) B0.1.is (ti_app1 hC.1.1 (by omega) h16' B0 (ti_tx B0 tn) (by simp only [List.length_nil]; omega) (by decide) hR') ?_
          rintro q H6 - ⟨rfl, v6, m6, hT6⟩ ho6 - -
          exact tail H6 v6 m6 _ hT6 rfl
        · rw [if_neg e0] at tail
          have hpos : 1 ≤ (zTell site (cs.take i)).length := List.length_pos_iff.mpr e0
          refine sJr_tell_42 (fun z => absurd z (nI_nle (by omega) (by omega))) (fun _ => ?_)
          refine sJr_tell_45 (by omega) (Nat.le_of_ble_eq_true rfl) B0.1.is (ti_app0 hC.1.1 (by omega) h16' B0 (c := 59) (by decide) (by omega) (by decide) hR') ?_
          rintro q H6 - ⟨rfl, v6, m6, hT6⟩ ho6 - -
          refine sJr_tell_51 rfl zRf_ref (f1.mo hT6.2.2.2.2.1 xo) (by omega) (Nat.le_of_ble_eq_true rfl) hT6.1.is (ti_app1 hC.1.1 (by omega) h16' hT6 (ti_tx hT6 tn) (by rw [List.length_append]; simp only [List.length_cons, List.length_nil]; omega) (by decide) hR') ?_
          rintro q H7 - ⟨rfl, v7, m7, hT7⟩ ho7 - -
          exact tail H7 v7 m7 _ hT7 rfl
      · rw [if_neg e]
        refine sJr_tell_35 (fun _ => ?_) (fun z => absurd rfl z)
        refine sJr_tell_79 (next H4 v' m' _ ?_ ho')
        unfold zT1
        rw [if_neg e]
        exact hT
  exact main cs.length 0 H v m _ (by omega) (ti_0 h) ho
/-- what adding to a list has come to -/
def zVres {α : Type} (G : zG) (P : List Nat → Heap → Nat → α → Prop) (L r : List Nat) (H : Heap) (a m ci : Nat) (ys : List α) (H1 : Heap) : Prop := ∃ e' m' : Nat, (e' ∈ r ∨ (H.size ≤ e' ∧ e' < H1.size)) ∧ zVr G P (e' :: L) H1 (e' :: r) a m' ci ys ∧ m ≤ m' ∧ (m' = m ∨ m' ≤ 60) ∧ zMo r H H1 ∧ zUs (m' - m) (4 * (m' - m)) H H1
theorem zVres.of {α : Type} {P : List Nat → Heap → Nat → α → Prop} {ci : Nat} {ys : List α} {H1 : Heap} (hK : zKd G ci P) (h : zVr G P L H1 r a m ci ys) (mo : zMo r H H1) (us : zUs 0 0 H H1) : zVres G P L r H a m ci ys H1 := by
  refine ⟨a, m, Or.inl h.1, ?_, Nat.le_refl _, Or.inl rfl, mo, us.le (by omega) (by omega)⟩
  obtain ⟨h1, h2, e, xs, h3, h4, h5, h6⟩ := h
  have haL := h2 a h1
  refine ⟨List.mem_cons_of_mem _ h1, fun q z => ?_, e, xs, h3, fun z => List.mem_cons_of_mem _ (h4 z), h5, h6.mono (fun x y hy => hK.2 L (a :: L) [] H1 H1 x y hy zMo.rf (fun q z => by cases z) (fun q z => Or.inl ?_))⟩
  · rcases List.mem_cons.mp z with rfl | z
    · exact List.mem_cons_self
    · exact List.mem_cons_of_mem _ (h2 q z)
  · rcases List.mem_cons.mp z with rfl | z
    · exact haL
    · exact z
theorem c_Jr_put (hC : zCv G) (hd : 7 ≤ d) (hj : zFd G H j 6 0 (.ref a)) (hjr : j ∉ r) (hV : zVr G (zCkO G) L H r a m 11 cs) {c : zCk} (hb : zCkO G L H b c) (hL : zLi G H L) (hlen : cs.length ≤ 20) (hR : zRm G H 1 50) : zC G d M_Jr_put [.ref j, .ref b] H (zPv fun H1 => zVres G (zCkO G) L r H a m 11 (zJput cs c) H1) := by
  obtain ⟨y0, y1, y2, sy, ny, vy, k0, k1, k2, w0, w1, w2⟩ := id hb
  refine zC_in [some (.ref j), some (.ref b), none, none] pn_Jr_put hC.1.1.1 rfl (Nat.le_of_ble_eq_true rfl) rfl (fun ho => ?_)
  refine sJr_put_0 ?_
  have main : ∀ (k i : Nat) (o3 : Option Value), i + k = cs.length → (∀ l (hl : l < cs.length), l < i → zCsp c.1 c.2.1 cs[l] = false) → zW G d M_Jr_put 2 [some (.ref j), some (.ref b), some (.int (nI i)), o3] [] H (zPv fun H1 => zVres G (zCkO G) L r H a m 11 (zJput cs c) H1) := by
    intro k
    induction k with
    | zero =>
      intro i o3 hi hno
      have hfi : zFi (zCsp c.1 c.2.1) cs = cs.length := fi_eq (Nat.le_refl _) (fun l hl _ => hno l hl (by omega)) (fun z => absurd z (Nat.lt_irrefl _))
      refine sJr_put_2 hj (by omega) (Nat.le_of_ble_eq_true rfl) hV.is (v_size hC.1.1 hV) ?_
      rintro q H2 ⟨rfl, rfl⟩ - - -
      refine sJr_put_10 (fun _ => ?_) (fun z => absurd (nI_le (by omega) (by omega)) z)
      refine sJr_put_70 hj (by omega) (Nat.le_of_ble_eq_true rfl) hV.is (v_size hC.1.1 hV) ?_
      rintro q H3 ⟨rfl, rfl⟩ - - -
      unfold zJput
      rw [if_neg (by omega)]
      by_cases q : cs.length < 20
      · rw [if_pos q]
        refine sJr_put_77 (fun z => absurd z (nI_ge (b := 20) q (by decide))) (fun _ => ?_)
        refine sJr_put_82 zRf_ref hj (by omega) (Nat.le_of_ble_eq_true rfl) hV.is (v_add hC.1 (by omega) zKd_ck zEl_ck hV hb (by omega) (hR.le _ _ (by omega) (by omega)) ho) ?_
        rintro q H4 hq ho4 - -
        obtain ⟨e', m', g1, g2, g3, g4, g5, g6⟩ := hq ho4
        exact sJr_put_90 rfl ⟨rfl, e', m', g1, g2, g3, (by omega), g5, g6⟩
      · rw [if_neg q]
        refine sJr_put_77 (fun _ => ?_) (fun z => absurd (nI_le (a := 20) (by omega) (by omega)) z)
        exact sJr_put_91 ⟨rfl, zVres.of zKd_ck hV zMo.rf zUs.rf⟩
    | succ k ih =>
      intro i o3 hi hno
      have hiL : i < cs.length := (by omega)
      refine sJr_put_2 hj (by omega) (Nat.le_of_ble_eq_true rfl) hV.is (v_size hC.1.1 hV) ?_
      rintro q H2 ⟨rfl, rfl⟩ - - -
      refine sJr_put_10 (fun z => absurd z (nI_ge (by omega) (by omega))) (fun _ => ?_)
      refine sJr_put_13 hj (by omega) (Nat.le_of_ble_eq_true rfl) hV.is (v_get hC.1.1 (by omega) hV (i := i) hiL) ?_
      rintro q H3 - ⟨x, rfl, hx, rfl⟩ - - -
      obtain ⟨x0, x1, x2, sx, nx, vx, f0, f1, f2, t0, t1, t2⟩ := id hx
      have next : zCsp c.1 c.2.1 cs[i] = false → ∀ o3, zW G d M_Jr_put 64 [some (.ref j), some (.ref b), some (.int (nI i)), o3] [] H3 (zPv fun H1 => zVres G (zCkO G) L r H3 a m 11 (zJput cs c) H1) := by
        intro hf o3
        refine sJr_put_64 ?_
        rw [nI_1]
        refine ih (i + 1) o3 (by omega) (fun l hl hli => ?_)
        by_cases z : l = i
        · subst z; exact hf
        · exact hno l hl (by omega)
      refine sJr_put_21 zRf_ref x2 f0 k0 (by omega) (Nat.le_of_ble_eq_true rfl) t0.is (c_St_equals hC.1.1 (by omega) t0 w0) ?_
      rintro q H4 ⟨rfl, rfl⟩ - - -
      by_cases e : cs[i].1 = c.1
      · rw [if_pos e]
        refine sJr_put_36 (fun z => absurd z (by decide)) (fun _ => ?_)
        refine sJr_put_39 zRf_ref f1 k1 (by omega) (Nat.le_of_ble_eq_true rfl) t1.is (c_St_equals hC.1.1 (by omega) t1 w1) ?_
        rintro q H5 ⟨rfl, rfl⟩ - - -
        by_cases e2 : cs[i].2.1 = c.2.1
        · rw [if_pos e2]
          have hfi : zFi (zCsp c.1 c.2.1) cs = i := fi_eq (Nat.le_of_lt hiL) hno (fun _ => by unfold zCsp; rw [e, e2]; simp)
          refine sJr_put_50 (fun z => absurd z (by decide)) (fun _ => ?_)
          refine sJr_put_53 zRf_ref hj (by omega) (Nat.le_of_ble_eq_true rfl) hV.is (v_set hC.1 (by omega) zKd_ck zEl_ck hV hiL hb hL) ?_
          rintro q H6 hq6 ⟨g1, g2, g3⟩ ho6 - -
          refine sJr_put_62 hq6.cat ⟨rfl, ?_⟩
          unfold zJput
          rw [hfi, if_pos hiL]
          exact zVres.of zKd_ck g1 g2 g3
        · rw [if_neg e2]
          exact sJr_put_50 (fun _ => next (by unfold zCsp; simp [e2]) _) (fun z => absurd rfl z)
      · rw [if_neg e]
        exact sJr_put_36 (fun _ => next (by unfold zCsp; simp [e]) _) (fun z => absurd rfl z)
  exact main cs.length 0 _ (by omega) (fun l hl h0 => absurd h0 (Nat.not_lt_zero _))
def zLsI (o : Option Nat) : Int32 := match o with
  | none => -1
  | some i => nI i
theorem c_Jr_dropLast (hC : zCv G) (hd : 4 ≤ d) (hj : zFd G H j 6 0 (.ref a)) (hV : zVr G (zCkO G) L H r a m 11 cs) (hs : zTx G L H s site) (hlen : cs.length ≤ 20) : zC G d M_Jr_dropLast [.ref j, .ref s] H (zPi fun k H1 => k = (match zLst site cs cs.length with
    | none => -1
    | some _ => nI (zHad site cs) - 1) ∧ zVr G (zCkO G) L H1 r a m 11 (match zLst site cs cs.length with
    | none => cs
    | some i => cs.eraseIdx i) ∧ zMo r H H1 ∧ zUs 0 0 H H1) := by
  refine zC_in [some (.ref j), some (.ref s), none, none, none] pn_Jr_dropLast hC.1.1.1 rfl (Nat.le_of_ble_eq_true rfl) rfl (fun ho => ?_)
  refine sJr_dropLast_0 ?_
  have main : ∀ (k i : Nat), i + k = cs.length → zW G d M_Jr_dropLast 7 [some (.ref j), some (.ref s), some (.int (zLsI (zLst site cs i))), some (.int (nI (zHad site (cs.take i)))), some (.int (nI i))] [] H (zPi fun k H1 => k = (match zLst site cs cs.length with
      | none => -1
      | some _ => nI (zHad site cs) - 1) ∧ zVr G (zCkO G) L H1 r a m 11 (match zLst site cs cs.length with
      | none => cs
      | some i => cs.eraseIdx i) ∧ zMo r H H1 ∧ zUs 0 0 H H1) := by
    intro k
    induction k with
    | zero =>
      intro i hi
      refine sJr_dropLast_7 hj (by omega) (Nat.le_of_ble_eq_true rfl) hV.is (v_size hC.1.1 hV) ?_
      rintro q H2 ⟨rfl, rfl⟩ - - -
      refine sJr_dropLast_16 (fun _ => ?_) (fun z => absurd (nI_le (by omega) (by omega)) z)
      have hic : i = cs.length := (by omega)
      subst hic
      rw [List.take_of_length_le (Nat.le_refl _)]
      cases hz : zLst site cs cs.length with
      | none =>
        exact sJr_dropLast_53 (fun z => absurd rfl z) (fun _ => sJr_dropLast_58 ⟨_, rfl, rfl, hV, zMo.rf, zUs.rf⟩)
      | some i =>
        have hil := lst_lt hz
        refine sJr_dropLast_53 (fun _ => ?_) (fun z => absurd z (nI_nm1 (by omega)))
        refine sJr_dropLast_60 hj (by omega) (Nat.le_of_ble_eq_true rfl) hV.is (v_remove hC.1 (by omega) zKd_ck zEl_ck hV hil) ?_
        rintro q H3 hq ⟨g1, g2, g3⟩ - - -
        exact sJr_dropLast_68 hq.cat ⟨_, rfl, rfl, g1, g2, g3⟩
    | succ k ih =>
      intro i hi
      have hiL : i < cs.length := (by omega)
      refine sJr_dropLast_7 hj (by omega) (Nat.le_of_ble_eq_true rfl) hV.is (v_size hC.1.1 hV) ?_
      rintro q H2 ⟨rfl, rfl⟩ - - -
      refine sJr_dropLast_16 (fun z => absurd z (nI_ge (by omega) (by omega))) (fun _ => ?_)
      refine sJr_dropLast_19 hj (by omega) (Nat.le_of_ble_eq_true rfl) hV.is (v_get hC.1.1 (by omega) hV (i := i) hiL) ?_
      rintro q H3 - ⟨x, rfl, hx, rfl⟩ - - -
      obtain ⟨x0, x1, x2, sx, nx, vx, f0, f1, f2, t0, t1, t2⟩ := id hx
      refine sJr_dropLast_28 zRf_ref x2 f0 (by omega) (Nat.le_of_ble_eq_true rfl) t0.is (c_St_equals hC.1.1 (by omega) t0 hs) ?_
      rintro q H4 ⟨rfl, rfl⟩ - - -
      have := ih (i + 1) (by omega)
      rw [lst_s hiL, had_take hiL] at this
      by_cases e : cs[i].1 = site
      · rw [if_pos e]
        rw [if_pos e, if_pos e] at this
        refine sJr_dropLast_38 (fun z => absurd z (by decide)) (fun _ => sJr_dropLast_41 ?_)
        rw [nI_1, nI_1]
        exact this
      · rw [if_neg e]
        rw [if_neg e, if_neg e] at this
        refine sJr_dropLast_38 (fun _ => sJr_dropLast_47 ?_) (fun z => absurd rfl z)
        rw [nI_1]
        exact this
  exact main cs.length 0 (by omega)
theorem c_Jr_size (hC : zCv G) (hd : 1 ≤ d) (hj : zFd G H j 6 0 (.ref a)) (hV : zVr G (zCkO G) L H r a m 11 cs) : zC G d M_Jr_size [.ref j] H (zRd H (nI cs.length)) := by
  refine zC_in [some (.ref j)] pn_Jr_size hC.1.1.1 rfl (Nat.le_of_ble_eq_true rfl) rfl (fun ho => ?_)
  refine sJr_size_0 hj (by omega) (Nat.le_of_ble_eq_true rfl) hV.is (v_size hC.1.1 hV) ?_
  rintro q H2 ⟨rfl, rfl⟩ - - -
  exact sJr_size_7 ⟨_, rfl, rfl, rfl⟩
theorem c_Kp_size (hC : zCv G) (hd : 1 ≤ d) (hj : zFd G H j 7 0 (.ref a)) (hV : zVr G (zKeO G) L H r a m 12 ks) : zC G d M_Kp_size [.ref j] H (zRd H (nI ks.length)) := by
  refine zC_in [some (.ref j)] pn_Kp_size hC.1.1.1 rfl (Nat.le_of_ble_eq_true rfl) rfl (fun ho => ?_)
  refine sKp_size_0 hj (by omega) (Nat.le_of_ble_eq_true rfl) hV.is (v_size hC.1.1 hV) ?_
  rintro q H2 ⟨rfl, rfl⟩ - - -
  exact sKp_size_7 ⟨_, rfl, rfl, rfl⟩
theorem c_Kp_placeOf (hC : zCv G) (hd : 3 ≤ d) (hj : zFd G H j 7 0 (.ref a)) (hV : zVr G (zKeO G) L H r a m 12 ks) {L2 : List Nat} (hA : zAd G L2 H b A) (hw : zWf A) (hkw : ∀ k ∈ ks, zAnW k.1) (hlen : ks.length ≤ 20) : zC G d M_Kp_placeOf [.ref j, .ref b] H (zRd H (if zFi (zKsp (zPl A)) ks < ks.length then nI (zFi (zKsp (zPl A)) ks) else -1)) := by
  refine zC_in [some (.ref j), some (.ref b), none] pn_Kp_placeOf hC.1.1.1 rfl (Nat.le_of_ble_eq_true rfl) rfl (fun ho => ?_)
  refine sKp_placeOf_0 ?_
  have main : ∀ (k i : Nat), i + k = ks.length → (∀ l (hl : l < ks.length), l < i → zKsp (zPl A) ks[l] = false) → zW G d M_Kp_placeOf 2 [some (.ref j), some (.ref b), some (.int (nI i))] [] H (zRd H (if zFi (zKsp (zPl A)) ks < ks.length then nI (zFi (zKsp (zPl A)) ks) else -1)) := by
    intro k
    induction k with
    | zero =>
      intro i hi hno
      have hfi : zFi (zKsp (zPl A)) ks = ks.length := fi_eq (Nat.le_refl _) (fun l hl _ => hno l hl (by omega)) (fun z => absurd z (Nat.lt_irrefl _))
      refine sKp_placeOf_2 hj (by omega) (Nat.le_of_ble_eq_true rfl) hV.is (v_size hC.1.1 hV) ?_
      rintro q H2 ⟨rfl, rfl⟩ - - -
      refine sKp_placeOf_10 (fun _ => ?_) (fun z => absurd (nI_le (by omega) (by omega)) z)
      refine sKp_placeOf_45 ⟨_, rfl, ?_, rfl⟩
      rw [if_neg (by omega)]
    | succ k ih =>
      intro i hi hno
      have hiL : i < ks.length := (by omega)
      refine sKp_placeOf_2 hj (by omega) (Nat.le_of_ble_eq_true rfl) hV.is (v_size hC.1.1 hV) ?_
      rintro q H2 ⟨rfl, rfl⟩ - - -
      refine sKp_placeOf_10 (fun z => absurd z (nI_ge (by omega) (by omega))) (fun _ => ?_)
      refine sKp_placeOf_13 hj (by omega) (Nat.le_of_ble_eq_true rfl) hV.is (v_get hC.1.1 (by omega) hV (i := i) hiL) ?_
      rintro q H3 - ⟨x, rfl, hx, rfl⟩ - - -
      obtain ⟨x0, x1, x2, y, f0, f1, y0, y1, y2, p, n, v, c, w, g0, g1, g2, g3, g4, g5, g6, t0, t1, t2, t3, t4⟩ := id hx
      refine sKp_placeOf_21 zRf_ref x2 f0 g0 (by omega) (Nat.le_of_ble_eq_true rfl) t0.2.1 (c_Ad_isSamePlace hC (by omega) t0 hA (hkw ks[i] (List.getElem_mem _)).1 hw) ?_
      rintro q H4 ⟨rfl, rfl⟩ - - -
      by_cases e : zPl ks[i].1.1 = zPl A
      · rw [if_pos e]
        have hfi : zFi (zKsp (zPl A)) ks = i := fi_eq (Nat.le_of_lt hiL) hno (fun _ => by unfold zKsp; rw [e]; simp)
        refine sKp_placeOf_34 (fun z => absurd z (by decide)) (fun _ => sKp_placeOf_37 ⟨_, rfl, ?_, rfl⟩)
        rw [hfi, if_pos hiL]
      · rw [if_neg e]
        refine sKp_placeOf_34 (fun _ => sKp_placeOf_39 ?_) (fun z => absurd rfl z)
        rw [nI_1]
        refine ih (i + 1) (by omega) (fun l hl hli => ?_)
        by_cases z : l = i
        · subst z; unfold zKsp; simp [e]
        · exact hno l hl (by omega)
  exact main ks.length 0 (by omega) (fun l hl h0 => absurd h0 (Nat.not_lt_zero _))
theorem c_Kp_fresh (hC : zCv G) (hd : 4 ≤ d) (hjs : zIs G H j 7) (hj : zFd G H j 7 0 (.ref a)) (hV : zVr G (zKeO G) L H r a m 12 ks) {L2 : List Nat} (hA : zAd G L2 H b A) (hw : zWf A) (hkw : ∀ k ∈ ks, zAnW k.1) (hlen : ks.length ≤ 20) {clk : Nat} (hclk : clk < 2 ^ 30) (hkt : ∀ k ∈ ks, k.2 < 2 ^ 30) : zC G d M_Kp_fresh [.ref j, .ref b, .int (nI clk)] H (zPr fun k H1 => (zFresh ks (zPl A) clk = none → k = .null) ∧ (∀ α, zFresh ks (zPl A) clk = some α → ∃ x, k = .ref x ∧ zAnO G L H x α) ∧ H1 = H) := by
  refine zC_in [some (.ref j), some (.ref b), some (.int (nI clk)), none] pn_Kp_fresh hC.1.1.1 rfl (Nat.le_of_ble_eq_true rfl) rfl (fun ho => ?_)
  refine sKp_fresh_0 zRf_ref (by omega) (Nat.le_of_ble_eq_true rfl) hjs (c_Kp_placeOf hC (by omega) hj hV hA hw hkw hlen) ?_
  rintro q H1 ⟨rfl, rfl⟩ - - -
  by_cases e : zFi (zKsp (zPl A)) ks < ks.length
  · rw [if_pos e]
    have ef : zFresh ks (zPl A) clk = if (ks[zFi (zKsp (zPl A)) ks]).2 ≤ clk then none else some (ks[zFi (zKsp (zPl A)) ks]).1 := by
      unfold zFresh
      rw [List.getElem?_eq_getElem e]
    refine sKp_fresh_5 (fun z => absurd z (nI_nm1 (by omega))) (fun _ => ?_)
    refine sKp_fresh_11 hj (by omega) (Nat.le_of_ble_eq_true rfl) hV.is (v_get hC.1.1 (by omega) hV e) ?_
    rintro q H2 - ⟨x, rfl, hx, rfl⟩ - - -
    obtain ⟨x0, x1, x2, y, f0, f1, y0⟩ := id hx
    have hkt' := hkt _ (List.getElem_mem e)
    refine sKp_fresh_19 x2 f1 (fun z => ?_) (fun z => ?_)
    · have hlt := (nI_ltI (by omega) (by omega)).mp z
      rw [if_neg (by omega)] at ef
      refine sKp_fresh_31 hj (by omega) (Nat.le_of_ble_eq_true rfl) hV.is (v_get hC.1.1 (by omega) hV e) ?_
      rintro q H3 - ⟨x', rfl, hx', rfl⟩ - - -
      obtain ⟨x0', x1', x2', y', f0', f1', y0'⟩ := id hx'
      refine sKp_fresh_39 zRf_ref x2' f0' ⟨_, rfl, zRf_ref, (fun z => by rw [ef] at z; cases z), (fun α hα => ?_), rfl⟩
      rw [ef] at hα
      cases hα
      exact ⟨y', rfl, y0'⟩
    · have hle : (ks[zFi (zKsp (zPl A)) ks]).2 ≤ clk := by
        rcases Nat.lt_or_ge clk (ks[zFi (zKsp (zPl A)) ks]).2 with w | w
        · exact absurd (nI_lt w (by omega)) z
        · exact w
      rw [if_pos hle] at ef
      exact sKp_fresh_29 ⟨_, rfl, zRf_null, fun _ => rfl, (fun α hα => by rw [ef] at hα; cases hα), rfl⟩
  · rw [if_neg e]
    have ef : zFresh ks (zPl A) clk = none := by
      unfold zFresh
      rw [List.getElem?_eq_none (by omega)]
    exact sKp_fresh_5 (fun _ => sKp_fresh_29 ⟨_, rfl, zRf_null, fun _ => rfl, (fun α hα => by rw [ef] at hα; cases hα), rfl⟩) (fun z => absurd rfl z)
theorem c_Kp_put (hC : zCv G) (hd : 7 ≤ d) (hjs : zIs G H j 7) (hj : zFd G H j 7 0 (.ref a)) (hjr : j ∉ r) (hV : zVr G (zKeO G) L H r a m 12 ks) {k : zKe} (hb : zKeO G L H b k) (hkb : zAnW k.1) (hL : zLi G H L) (hkw : ∀ k ∈ ks, zAnW k.1) (hlen : ks.length ≤ 20) (hR : zRm G H 1 50) : zC G d M_Kp_put [.ref j, .ref b] H (zPv fun H1 => zVres G (zKeO G) L r H a m 12 (zKput ks k) H1) := by
  obtain ⟨x0, x1, x2, y, f0, f1, y0, y1, y2, p, n, v, c, w, g0, g1, g2, g3, g4, g5, g6, t0, t1, t2, t3, t4⟩ := id hb
  refine zC_in [some (.ref j), some (.ref b), none] pn_Kp_put hC.1.1.1 rfl (Nat.le_of_ble_eq_true rfl) rfl (fun ho => ?_)
  refine sKp_put_0 zRf_ref f0 g0 (by omega) (Nat.le_of_ble_eq_true rfl) hjs (c_Kp_placeOf hC (by omega) hj hV t0 hkb.1 hkw hlen) ?_
  rintro q H1 ⟨rfl, rfl⟩ - - -
  -- behind a removal
  have add : ∀ (H2 : Heap) (ks' : List zKe), zVr G (zKeO G) L H2 r a m 12 ks' → ks'.length ≤ 20 → zMo r H1 H2 → zUs 0 0 H1 H2 → zOk G H2 → zC G (d - 1) M_Al_add_0 [.ref a, .ref b] H2 (zPi fun _ H3 => zOk G H3 → zVres G (zKeO G) L r H1 a m 12 (ks' ++ [k]) H3) := by
    intro H2 ks' h2 hl m2 u2 ho2
    have hb2 : zKeO G L H2 b k := hb.st m2 (fun q z => Or.inl (hV.2.1 q z)) (fun q z => Or.inl z)
    refine zC_mono (v_add hC.1 (by omega) zKd_ke zEl_ke h2 hb2 (by omega) (hR.us u2 _ _ (by omega) (by omega)) ho2) ?_
    rintro q H3 ⟨k3, rfl, h3⟩
    refine ⟨_, rfl, fun ho3 => ?_⟩
    obtain ⟨e', m', g1, g2, g3, g4, g5, g6⟩ := h3 ho3
    exact ⟨e', m', g1.imp id (fun z => ⟨Nat.le_trans m2.1 z.1, z.2⟩), g2, g3, (by omega), m2.tr g5 (fun q z => Or.inl z) (fun q z => Or.inl z), u2.tr g6 (by omega) (by omega)⟩
  unfold zKput
  by_cases e : zFi (zKsp (zPl k.1.1)) ks < ks.length
  · rw [if_pos e, if_pos e]
    refine sKp_put_11 (fun z => absurd z (nI_nm1 (by omega))) (fun _ => ?_)
    refine sKp_put_17 hj (by omega) (Nat.le_of_ble_eq_true rfl) hV.is (v_remove hC.1 (by omega) zKd_ke zEl_ke hV e) ?_
    rintro q H2 hq ⟨g1, g2, g3⟩ ho2 - -
    refine sKp_put_25 hq.cat zRf_ref (hj.mo g2 hjr) (by omega) (Nat.le_of_ble_eq_true rfl) g1.is (add H2 _ g1 (by rw [List.length_eraseIdx_of_lt e]; omega) g2 g3 ho2) ?_
    rintro q H3 h3 ho3 - -
    exact sKp_put_58 rfl ⟨rfl, h3 ho3⟩
  · rw [if_neg e, if_neg e]
    refine sKp_put_11 (fun _ => ?_) (fun z => absurd rfl z)
    refine sKp_put_29 hj (by omega) (Nat.le_of_ble_eq_true rfl) hV.is (v_size hC.1.1 hV) ?_
    rintro q H2 ⟨rfl, rfl⟩ - - -
    by_cases e8 : 8 ≤ ks.length
    · rw [if_pos e8]
      refine sKp_put_36 (fun z => absurd z (nI_nlt (b := 8) e8 (by omega))) (fun _ => ?_)
      refine sKp_put_41 hj (by omega) (Nat.le_of_ble_eq_true rfl) hV.is (v_remove hC.1 (by omega) zKd_ke zEl_ke hV (i := 0) (by omega)) ?_
      rintro q H3 hq ⟨g1, g2, g3⟩ ho3 - -
      refine sKp_put_49 hq.cat zRf_ref (hj.mo g2 hjr) (by omega) (Nat.le_of_ble_eq_true rfl) g1.is (add H3 _ g1 (by rw [List.length_eraseIdx_of_lt (by omega)]; omega) g2 g3 ho3) ?_
      rintro q H4 h4 ho4 - -
      exact sKp_put_58 rfl ⟨rfl, h4 ho4⟩
    · rw [if_neg e8]
      refine sKp_put_36 (fun _ => ?_) (fun z => absurd (nI_lt (b := 8) (by omega) (by decide)) z)
      refine sKp_put_50 zRf_ref hj (by omega) (Nat.le_of_ble_eq_true rfl) hV.is (add H2 _ hV hlen zMo.rf zUs.rf ho) ?_
      rintro q H3 h3 ho3 - -
      exact sKp_put_58 rfl ⟨rfl, h3 ho3⟩
end KJ
