/-- a call with more below it on the stack -/
theorem zw_callI8 {G : zG} {d : Nat} {M M2 : zMd} {pc : Nat} {lv : List (Option Value)} {st : List Value} {H : Heap} {Q Q2 : Option Value → Heap → Prop} {idx n b : Nat} (As rest : List Value) (hd : decode M.2.1 pc = .ok (.invokespecial idx, 3)) (hd1 : 1 ≤ d) (hL : zLkI M.1.cls idx M2 n) (hst : st = As.reverse ++ .ref b :: rest) (hn : As.length = n) (hr : (rest.map fun v => v.category).sum ≤ 8) (hc : zC G (d - 1) M2 (.ref b :: As) H Q2) (kk : ∀ v H1, Q2 v H1 → zOk G H1 → H.size ≤ H1.size → zT H ≤ zT H1 → zW G d M (pc + 3) lv (v.toList ++ rest) H1 Q) : zW G d M pc lv st H Q := by
  intro p e s m args below meth c locs ls cells slots g0 g1 A h1 h2 h3 h4 h5
  obtain ⟨y, by2, nL2, ret⟩ := M2
  obtain ⟨⟨k1, k2, k3, k4, k5⟩, k6, k8, k9, k7⟩ := hL
  simp only at k6
  subst k6
  refine zw_norm fun b1 b2 => zw_after (mc := zCp G - H.size) (ms := zSp G - zT H) (a := (Value.ref b :: As).toArray) ?_ kk g0 g1 A h1 h2 h3 h4
  have hP : PreS s H (va_Pc (.ref b :: As) (fun U => U.heap = H ∧ zEnv G U)) (.ref b :: As) := ⟨zBlind, fun U hU hW => ⟨rfl, hU, State.WarmedH.trans g1 hW⟩⟩
  rcases k7 with k7 | ⟨host, k7⟩
  · exact va_runI (cc := M.2.1) (nL := M.2.2.1) (Ts := []) ⟨A.1, A.2.1, A.2.2.1, A.2.2.2.2.2.1, fun w h => by cases h⟩ (hc h5) ⟨⟨rfl, rfl, (zRoom hd1 k5).1, (zRoom hd1 k5).2, zWs g0 g1 k1, List.mem_singleton.mpr rfl, zWd g0 g1 k1 rfl, zWd g0 g1 k2 rfl, k3, zLen k4, zWd g0 g1 k7 rfl⟩, k8, zWd g0 g1 k9 rfl⟩ hP rfl hn (h2.1.trans h1) hst (by show 2 * 0 + _ ≤ 8; omega) hd (zRoom2 h5 b1 b2)
  · exact va_runIN (cc := M.2.1) (nL := M.2.2.1) (Ts := []) ⟨A.1, A.2.1, A.2.2.1, A.2.2.2.2.2.1, fun w h => by cases h⟩ (hc h5) ⟨⟨⟨rfl, rfl, (zRoom hd1 k5).1, (zRoom hd1 k5).2, zWs g0 g1 k1, List.mem_singleton.mpr rfl⟩, zWd g0 g1 k1 rfl, zWd g0 g1 k2 rfl, k3, zLen k4, va_Nw.use rfl (va_Nw.warmM g1 (va_Nw.of rfl (g0.1 _ k7)))⟩, k8, zWd g0 g1 k9 rfl⟩ hP rfl hn (h2.1.trans h1) hst (by show 2 * 0 + _ ≤ 8; omega) hd (zRoom2 h5 b1 b2)
section KN
variable {G : zG} {d : Nat} {H H1 : Heap} {j x a : Nat}
theorem c_Jr_init (hC : zCv G) (hd : 4 ≤ d) {b0 : Value} (hO : zObj G H j 6 [b0]) (hj : zFr G j) (hR : zRm G H 1 3) : zC G d M_Jr_init [.ref j] H (zPv fun H1 => zObj G H1 j 6 [.ref H.size] ∧ (∃ k, zAL G H1 H.size k 0 11 [] ∧ k < (zS G).heap.size) ∧ zMo [j] H H1 ∧ zUs 1 3 H H1 ∧ H.size < H1.size) := by
  have hjl := hO.lt
  refine zC_in [some (.ref j)] pn_Jr_init hC.1.1.1 rfl (Nat.le_of_ble_eq_true rfl) rfl (fun ho => ?_)
  refine sJr_init_0 (by omega) (Nat.le_of_ble_eq_true rfl) ?_
  refine sJr_init_4 zRf_ref hR.1 hR.2 (fun H1 h1 n1 => ?_)
  have e1 : H1.size = H.size + 1 := n1.1
  refine sJr_init_8 (by omega) (Nat.le_of_ble_eq_true rfl) (c_Al_init (ci := 11) hC.1 (by omega) h1 (zFr_new ho)) ?_
  rintro H2 ⟨⟨k, g1, g0⟩, g2, g3⟩ ho2 hs2 -
  have hO2 := (hO.ex n1.mo).mo g2 (fun z => by have := List.mem_singleton.mp z; omega)
  refine sJr_init_12 zRf_ref hO2 hj (fun H3 h3 u3 => ?_)
  have hf : H.size ∉ [j] := fun z => by have := List.mem_singleton.mp z; omega
  have hfr : (zS G).heap.size ≤ j := hj
  refine sJr_init_15 ⟨rfl, h3, ⟨k, g1.mo u3.mo hf (fun z => by have := List.mem_singleton.mp z; omega) (fun x hx => by cases hx), g0⟩, ?_, ?_, ?_⟩
  · exact ((n1.mo.tr g2 (S := []) (fun q z => by cases z) (fun q z => Or.inr (by rw [List.mem_singleton.mp z]; exact Nat.le_refl _))).mono (S := [j]) (fun q z => by cases z)).up u3 (Or.inl mem1)
  · exact (n1.us.tr g3 (c := 1) (s := 3) (by omega) (by omega)).tr u3.us (c2 := 0) (s2 := 0) (by omega) (by omega)
  · have := u3.1; omega
theorem c_Kp_init (hC : zCv G) (hd : 4 ≤ d) {b0 : Value} (hO : zObj G H j 7 [b0]) (hj : zFr G j) (hR : zRm G H 1 3) : zC G d M_Kp_init [.ref j] H (zPv fun H1 => zObj G H1 j 7 [.ref H.size] ∧ (∃ k, zAL G H1 H.size k 0 12 [] ∧ k < (zS G).heap.size) ∧ zMo [j] H H1 ∧ zUs 1 3 H H1 ∧ H.size < H1.size) := by
  have hjl := hO.lt
  refine zC_in [some (.ref j)] pn_Kp_init hC.1.1.1 rfl (Nat.le_of_ble_eq_true rfl) rfl (fun ho => ?_)
  refine sKp_init_0 (by omega) (Nat.le_of_ble_eq_true rfl) ?_
  refine sKp_init_4 zRf_ref hR.1 hR.2 (fun H1 h1 n1 => ?_)
  have e1 : H1.size = H.size + 1 := n1.1
  refine sKp_init_8 (by omega) (Nat.le_of_ble_eq_true rfl) (c_Al_init (ci := 12) hC.1 (by omega) h1 (zFr_new ho)) ?_
  rintro H2 ⟨⟨k, g1, g0⟩, g2, g3⟩ ho2 hs2 -
  have hO2 := (hO.ex n1.mo).mo g2 (fun z => by have := List.mem_singleton.mp z; omega)
  refine sKp_init_12 zRf_ref hO2 hj (fun H3 h3 u3 => ?_)
  have hf : H.size ∉ [j] := fun z => by have := List.mem_singleton.mp z; omega
  have hfr : (zS G).heap.size ≤ j := hj
  refine sKp_init_15 ⟨rfl, h3, ⟨k, g1.mo u3.mo hf (fun z => by have := List.mem_singleton.mp z; omega) (fun x hx => by cases hx), g0⟩, ?_, ?_, ?_⟩
  · exact ((n1.mo.tr g2 (S := []) (fun q z => by cases z) (fun q z => Or.inr (by rw [List.mem_singleton.mp z]; exact Nat.le_refl _))).mono (S := [j]) (fun q z => by cases z)).up u3 (Or.inl mem1)
  · exact (n1.us.tr g3 (c := 1) (s := 3) (by omega) (by omega)).tr u3.us (c2 := 0) (s2 := 0) (by omega) (by omega)
  · have := u3.1; omega
/-- a new object and a store: what was there stays but for x -/
theorem mo_up {n c : Nat} {H1 H2 H3 H4 : Heap} (n1 : zNw n H1 H2) (m2 : zMo [H1.size] H2 H3) (u3 : zUp c H3 H4) : zMo [c] H1 H4 := ((n1.mo.tr m2 (S := []) (fun q z => by cases z) (fun q z => Or.inr (by rw [List.mem_singleton.mp z]; exact Nat.le_refl _))).mono (S := [c]) (fun q z => by cases z)).up u3 (Or.inl mem1)
theorem mo_x {c : Nat} {H1 H2 H3 : Heap} (h1 : zMo [c] H1 H2) (h2 : zMo [c] H2 H3) : zMo [c] H1 H3 := h1.tr h2 (fun _ z => Or.inl z) (fun _ z => Or.inl z)
def zK0 (x t o s al ca ka j kp h e : Nat) : Nat → Nat := fun i => match i with
  | 0 => x | 1 => t | 2 => o | 3 => s | 4 => al | 5 => ca | 6 => ka | 7 => j | 8 => kp | 9 => h | _ => e
def zR0 (x t tv o ov s sv al ca ka : Nat) : Nat → List Nat := fun i => match i with
  | 0 => [x] | 1 => [t, tv] | 2 => [o, ov] | 3 => [s, sv] | 4 => [al] | 5 => [ca] | 6 => [ka] | _ => []
theorem zR0_L {x t tv o ov s sv al ca ka : Nat} : zRL (zR0 x t tv o ov s sv al ca ka) = [x, t, tv, o, ov, s, sv, al, ca, ka] := rfl
theorem c_N_init (hC : zCv G) (hd : 5 ≤ d) {b0 b1 b2 b3 b4 b5 b6 b7 b8 b9 b10 b11 b12 b13 b14 b15 b16 : Value} (hO : zObj G H x 0 [b0, b1, b2, b3, b4, b5, b6, b7, b8, b9, b10, b11, b12, b13, b14, b15, b16]) (hx : zFr G x) (hR : zRm G H 30 200) : zC G d M_N_init [.ref x] H (zPv fun H1 => ∃ K R M, K 0 = x ∧ zOk G H1 ∧ zDk G K R M H1 ([], [], zHome) ([], [], [], 0) (0, none, []) (zEmp, none, [], 0, false) ∧ (∀ q ∈ zRL R, q = x ∨ H.size ≤ q) ∧ R 7 = [] ∧ zPh M = 48 ∧ zMo [x] H H1 ∧ zUs 30 200 H H1) := by
  have hxl := hO.lt
  have hfx : (zS G).heap.size ≤ x := hx
  obtain ⟨ka, lta, -, txa⟩ := hC.2 _ (List.mem_of_getElem? (show zLits[0]? = some ("NetDesk", 21, "home", [104, 111, 109, 101]) from rfl))
  obtain ⟨kb, ltb, -, txb⟩ := hC.2 _ (List.mem_of_getElem? (show zLits[1]? = some ("NetDesk", 23, "/", [47]) from rfl))
  obtain ⟨kc, ltc, -, txc⟩ := hC.2 _ (List.mem_of_getElem? (show zLits[2]? = some ("NetDesk", 25, "", []) from rfl))
  have nx : ∀ q, q ≠ x → q ∉ [x] := fun q hq z => hq (List.mem_singleton.mp z)
  refine zC_in [some (.ref x)] pn_N_init hC.1.1.1 rfl (Nat.le_of_ble_eq_true rfl) rfl (fun ho => ?_)
  refine sN_init_0 (by omega) (Nat.le_of_ble_eq_true rfl) ?_
  -- tape
  refine sN_init_4 zRf_ref (by have := hR.1; omega) (by have := hR.2; omega) (fun H1 h1 n1 => ?_)
  have z1 : H1.size = H.size + 1 := n1.1
  refine sN_init_8 (by omega) (Nat.le_of_ble_eq_true rfl) (c_Sb_init (b2 := .null) hC.1.1 (by omega) h1 (zFr_new ho) (hR.us n1.us _ _ (by omega) (by omega))) ?_
  rintro H2 ⟨t1, m2, u2⟩ ho2 hs2 -
  have o2 := (hO.ex n1.mo).mo m2 (fun z => by have := List.mem_singleton.mp z; omega)
  refine sN_init_12 zRf_ref o2 hx (fun H3 o3 up3 => ?_)
  have ho3 := up3.ok hx ho2
  have M1 := mo_up n1 m2 up3
  have U1 : zUs 2 20 H H3 := (n1.us.tr u2 (c := 2) (s := 20) (by omega) (by omega)).tr up3.us (c2 := 0) (s2 := 0) (by omega) (by omega)
  have T1 := t1.mo up3.mo (fun z => by have := List.mem_singleton.mp z; omega) (fun z => by have := List.mem_singleton.mp z; omega)
  have z3 : H1.size < H3.size := by have := T1.lt; omega
  -- written
  refine sN_init_15 zRf_ref (hR.us U1 1 4 (by omega) (by omega)).1 (hR.us U1 1 4 (by omega) (by omega)).2 (fun H4 h4 n4 => ?_)
  have z4 : H4.size = H3.size + 1 := n4.1
  refine sN_init_19 (by omega) (Nat.le_of_ble_eq_true rfl) (c_Sb_init (b2 := .null) hC.1.1 (by omega) h4 (zFr_new ho3) (hR.us (U1.tr n4.us (c := 3) (s := 24) (by omega) (by omega)) _ _ (by omega) (by omega))) ?_
  rintro H5 ⟨t5, m5, u5⟩ ho5 hs5 -
  have o5 := (o3.ex n4.mo).mo m5 (fun z => by have := List.mem_singleton.mp z; omega)
  refine sN_init_23 zRf_ref o5 hx (fun H6 o6 up6 => ?_)
  have ho6 := up6.ok hx ho5
  have M2 := mo_up n4 m5 up6
  have U2 : zUs 4 40 H H6 := U1.tr ((n4.us.tr u5 (c := 2) (s := 20) (by omega) (by omega)).tr up6.us (c := 2) (s := 20) (c2 := 0) (s2 := 0) (by omega) (by omega)) (by omega) (by omega)
  have T5 := t5.mo up6.mo (fun z => by have := List.mem_singleton.mp z; omega) (fun z => by have := List.mem_singleton.mp z; omega)
  have z6 : H4.size < H6.size := by have := T5.lt; omega
  -- home
  refine sN_init_26 zRf_ref (hR.us U2 1 4 (by omega) (by omega)).1 (hR.us U2 1 4 (by omega) (by omega)).2 (fun H7 h7 n7 => ?_)
  have ho7 := n7.ok (hR.us U2 1 4 (by omega) (by omega)).1 (hR.us U2 1 4 (by omega) (by omega)).2 ho6
  have z7 : H7.size = H6.size + 1 := n7.1
  refine sN_init_30 lta ltb ltc ltc (by omega) (Nat.le_of_ble_eq_true rfl) (c_Ad_init hC (by omega) h7 (zFr_new ho6)) ?_
  rintro H8 ⟨a8, m8, u8⟩ ho8 hs8 -
  have o8 := (o6.ex n7.mo).mo m8 (fun z => by have := List.mem_singleton.mp z; omega)
  refine sN_init_42 zRf_ref o8 hx (fun H9 o9 up9 => ?_)
  have ho9 := up9.ok hx ho8
  have M3 := mo_up n7 m8 up9
  have U3 : zUs 5 44 H H9 := U2.tr ((n7.us.tr u8 (c := 1) (s := 4) (by omega) (by omega)).tr up9.us (c := 1) (s := 4) (c2 := 0) (s2 := 0) (by omega) (by omega)) (by omega) (by omega)
  have A9 := a8.mo up9.mo (fun z => by have := List.mem_singleton.mp z; omega)
  have z9 : H6.size < H9.size := A9.lt
  -- empty
  refine sN_init_45 zRf_ref (hR.us U3 1 7 (by omega) (by omega)).1 (hR.us U3 1 7 (by omega) (by omega)).2 (fun H10 h10 n10 => ?_)
  have z10 : H10.size = H9.size + 1 := n10.1
  have ho10 := n10.ok (hR.us U3 1 7 (by omega) (by omega)).1 (hR.us U3 1 7 (by omega) (by omega)).2 ho9
  have U4 : zUs 6 51 H H10 := U3.tr n10.us (by omega) (by omega)
  have o10 := o9.ex n10.mo
  refine sN_init_49 rfl zRf_ref (o10.fd rfl) (hR.us U4 1 6 (by omega) (by omega)).1 (hR.us U4 1 6 (by omega) (by omega)).2 (fun H11 h11 n11 => ?_)
  have z11 : H11.size = H10.size + 1 := n11.1
  have ho11 := n11.ok (hR.us U4 1 6 (by omega) (by omega)).1 (hR.us U4 1 6 (by omega) (by omega)).2 ho10
  have U5 : zUs 7 57 H H11 := U4.tr n11.us (by omega) (by omega)
  have f9 : (zS G).heap.size ≤ H9.size := ho9.1
  have f10 : (zS G).heap.size ≤ H10.size := ho10.1
  have f3 : (zS G).heap.size ≤ H3.size := ho3.1
  have f1 : (zS G).heap.size ≤ H.size := ho.1
  have hLall : ∀ {Hx : Heap}, H11.size ≤ Hx.size → zLi G Hx [H9.size, H10.size, x, H.size, H1.size, H3.size, H4.size] := fun {Hx} hh q z => by
    simp only [List.mem_cons, List.not_mem_nil, or_false] at z
    unfold zFr
    omega
  refine zw_dup dN_init_57 rfl (zw_callI8 (H := H11) (M := M_N_init) (d := d) (Q2 := zPv fun Hy => zFlO G [H9.size, H10.size, x, H.size, H1.size, H3.size, H4.size] Hy H10.size zFe0 ∧ zMo [H10.size] H11 Hy ∧ zUs 0 0 H11 Hy) [] _ dN_init_58 (by omega) zk_N_37 rfl rfl (Nat.le_of_ble_eq_true rfl) (c_Fl_init (d := d - 1) (L := [H9.size, H10.size, x, H.size, H1.size, H3.size, H4.size]) hC (by omega) h11 (zFr_new ho10) (hLall (Nat.le_refl _)) (by simp)) (zPv_k ?_))
  rintro H12 ⟨g12, m12, u12⟩ ho12 hs12 -
  have mA : zMo [H9.size, H10.size] H9 H12 := (n10.mo.nw n11).tr m12 (S := [H9.size, H10.size]) (fun q z => by cases z) (fun q z => by rw [List.mem_singleton.mp z]; exact Or.inl (by simp))
  have A12 := A9.mo mA (by simp only [List.mem_cons, List.not_mem_nil, or_false]; omega)
  have tt : ∀ {k : Nat} {t : List Nat}, zTx G [] (zS G).heap k t → zTx G [H9.size, H10.size, x, H.size, H1.size, H3.size, H4.size] H12 k t := fun h => h.up0 ho12 (hLall hs12)
  have ad12 : zAd G [H9.size, H10.size, x, H.size, H1.size, H3.size, H4.size] H12 H6.size zHome := ⟨by simp only [List.mem_cons, List.not_mem_nil, or_false]; omega, A12.is, ka, kb, kc, kc, A12.fd rfl, A12.fd rfl, A12.fd rfl, A12.fd rfl, tt txa, tt txb, tt txc, tt txc⟩
  have h12 := (h10.ex n11.mo).mo m12 (fun z => by have := List.mem_singleton.mp z; omega)
  refine sN_init_61 zRf_ref zRf_ref ltc (by omega) (Nat.le_of_ble_eq_true rfl) (c_An_init (L := [H10.size, x, H.size, H1.size, H3.size, H4.size]) hC (by omega) h12 (zFr_new ho9) (by simp only [List.mem_cons, List.not_mem_nil, or_false]; omega) ad12 g12 (tt txc) (by omega)) ?_
  rintro H13 ⟨g13, m13, u13⟩ ho13 hs13 -
  have mB : zMo [H9.size, H10.size] H9 H13 := mA.tr m13 (fun q z => Or.inl z) (fun q z => by rw [List.mem_singleton.mp z]; exact Or.inl (by simp))
  have o13 := o9.mo mB (by simp only [List.mem_cons, List.not_mem_nil, or_false]; omega)
  refine sN_init_66 zRf_ref o13 hx (fun H14 o14 up14 => ?_)
  have ho14 := up14.ok hx ho13
  have M4 : zMo [x] H9 H14 := (mB.mono (S := [x]) (fun q z => by simp only [List.mem_cons, List.not_mem_nil, or_false] at z; exact Or.inr (by omega))).up up14 (Or.inl mem1)
  have U6 : zUs 7 57 H H14 := ((U5.tr u12 (c := 7) (s := 57) (by omega) (by omega)).tr u13 (c := 7) (s := 57) (by omega) (by omega)).tr up14.us (c2 := 0) (s2 := 0) (by omega) (by omega)
  have z14 : H11.size ≤ H14.size := by have := up14.1; omega
  have e14 : zAnO G [H10.size, x, H.size, H1.size, H3.size, H4.size] H14 H9.size zEmp := g13.st up14.mo (fun q z => by rw [List.mem_singleton.mp z]; exact Or.inl (by simp)) (fun q z => Or.inl z)
  -- answers
  refine sN_init_69 zRf_ref (hR.us U6 1 3 (by omega) (by omega)).1 (hR.us U6 1 3 (by omega) (by omega)).2 (fun H15 h15 n15 => ?_)
  have z15 : H15.size = H14.size + 1 := n15.1
  refine sN_init_73 (by omega) (Nat.le_of_ble_eq_true rfl) (c_Al_init (ci := 3) hC.1 (by omega) h15 (zFr_new ho14)) ?_
  rintro H16 ⟨⟨k16, g16, l16⟩, m16, u16⟩ ho16 hs16 -
  have o16 := (o14.ex n15.mo).mo m16 (fun z => by have := List.mem_singleton.mp z; omega)
  refine sN_init_77 zRf_ref o16 hx (fun H17 o17 up17 => ?_)
  have ho17 := up17.ok hx ho16
  have M5 := mo_up n15 m16 up17
  have U7 : zUs 8 60 H H17 := U6.tr ((n15.us.tr u16 (c := 1) (s := 3) (by omega) (by omega)).tr up17.us (c := 1) (s := 3) (c2 := 0) (s2 := 0) (by omega) (by omega)) (by omega) (by omega)
  have L17 := g16.mo up17.mo (nx _ (by omega)) (nx _ (by omega)) (fun x hx => by cases hx)
  have z17 : H15.size ≤ H17.size := by have := up17.1; omega
  -- jar
  refine sN_init_80 zRf_ref (hR.us U7 1 1 (by omega) (by omega)).1 (hR.us U7 1 1 (by omega) (by omega)).2 (fun H18 h18 n18 => ?_)
  have z18 : H18.size = H17.size + 1 := n18.1
  refine sN_init_84 (by omega) (Nat.le_of_ble_eq_true rfl) (c_Jr_init hC (by omega) h18 (zFr_new ho17) (hR.us (U7.tr n18.us (c := 9) (s := 61) (by omega) (by omega)) _ _ (by omega) (by omega))) ?_
  rintro H19 ⟨j19, ⟨k19, g19, l19⟩, m19, u19, s19⟩ ho19 hs19 -
  have o19 := (o17.ex n18.mo).mo m19 (fun z => by have := List.mem_singleton.mp z; omega)
  refine sN_init_88 zRf_ref o19 hx (fun H20 o20 up20 => ?_)
  have ho20 := up20.ok hx ho19
  have M6 := mo_up n18 m19 up20
  have U8 : zUs 10 64 H H20 := U7.tr ((n18.us.tr u19 (c := 2) (s := 4) (by omega) (by omega)).tr up20.us (c := 2) (s := 4) (c2 := 0) (s2 := 0) (by omega) (by omega)) (by omega) (by omega)
  have J20 := j19.mo up20.mo (nx _ (by omega))
  have L20 := g19.mo up20.mo (nx _ (by omega)) (nx _ (by omega)) (fun x hx => by cases hx)
  have z20 : H18.size < H20.size := by have := up20.1; omega
  -- keep
  refine sN_init_91 zRf_ref (hR.us U8 1 1 (by omega) (by omega)).1 (hR.us U8 1 1 (by omega) (by omega)).2 (fun H21 h21 n21 => ?_)
  have z21 : H21.size = H20.size + 1 := n21.1
  refine sN_init_95 (by omega) (Nat.le_of_ble_eq_true rfl) (c_Kp_init hC (by omega) h21 (zFr_new ho20) (hR.us (U8.tr n21.us (c := 11) (s := 65) (by omega) (by omega)) _ _ (by omega) (by omega))) ?_
  rintro H22 ⟨j22, ⟨k22, g22, l22⟩, m22, u22, s22⟩ ho22 hs22 -
  have o22 := (o20.ex n21.mo).mo m22 (fun z => by have := List.mem_singleton.mp z; omega)
  refine sN_init_99 zRf_ref o22 hx (fun H23 o23 up23 => ?_)
  have ho23 := up23.ok hx ho22
  have M7 := mo_up n21 m22 up23
  have U9 : zUs 12 68 H H23 := U8.tr ((n21.us.tr u22 (c := 2) (s := 4) (by omega) (by omega)).tr up23.us (c := 2) (s := 4) (c2 := 0) (s2 := 0) (by omega) (by omega)) (by omega) (by omega)
  have J23 := j22.mo up23.mo (nx _ (by omega))
  have L23 := g22.mo up23.mo (nx _ (by omega)) (nx _ (by omega)) (fun x hx => by cases hx)
  have z23 : H21.size < H23.size := by have := up23.1; omega
  -- sent
  refine sN_init_102 zRf_ref (hR.us U9 1 4 (by omega) (by omega)).1 (hR.us U9 1 4 (by omega) (by omega)).2 (fun H24 h24 n24 => ?_)
  have z24 : H24.size = H23.size + 1 := n24.1
  refine sN_init_106 (by omega) (Nat.le_of_ble_eq_true rfl) (c_Sb_init (b2 := .null) hC.1.1 (by omega) h24 (zFr_new ho23) (hR.us (U9.tr n24.us (c := 13) (s := 72) (by omega) (by omega)) _ _ (by omega) (by omega))) ?_
  rintro H25 ⟨t25, m25, u25⟩ ho25 hs25 -
  have o25 := (o23.ex n24.mo).mo m25 (fun z => by have := List.mem_singleton.mp z; omega)
  refine sN_init_110 zRf_ref o25 hx (fun H26 o26 up26 => ?_)
  have ho26 := up26.ok hx ho25
  have M8 := mo_up n24 m25 up26
  have U10 : zUs 14 88 H H26 := U9.tr ((n24.us.tr u25 (c := 2) (s := 20) (by omega) (by omega)).tr up26.us (c := 2) (s := 20) (c2 := 0) (s2 := 0) (by omega) (by omega)) (by omega) (by omega)
  have T26 := t25.mo up26.mo (nx _ (by omega)) (nx _ (by omega))
  have z26 : H24.size < H26.size := by have := T26.lt; omega
  -- the rest
  refine sN_init_113 zRf_ref (o26.fd rfl) o26 hx (fun H27 o27 up27 => ?_)
  refine sN_init_121 o27 hx (fun H28 o28 up28 => ?_)
  refine sN_init_126 o28 hx (fun H29 o29 up29 => ?_)
  refine sN_init_131 o29 hx (fun H30 o30 up30 => ?_)
  refine sN_init_136 zRf_ref (o30.fd rfl) o30 hx (fun H31 o31 up31 => ?_)
  refine sN_init_144 o31 hx (fun H32 o32 up32 => ?_)
  refine sN_init_149 ltc o32 hx (fun H33 o33 up33 => ?_)
  refine sN_init_155 o33 hx (fun H34 o34 up34 => ?_)
  refine sN_init_160 o34 hx rfl rfl (fun H35 o35 up35 => ?_)
  have ho35 : zOk G H35 := up35.ok hx (up34.ok hx (up33.ok hx (up32.ok hx (up31.ok hx (up30.ok hx (up29.ok hx (up28.ok hx (up27.ok hx ho26))))))))
  have E26 : zMo [x] H26 H35 := (((((((up27.mo.up up28 (Or.inl mem1)).up up29 (Or.inl mem1)).up up30 (Or.inl mem1)).up up31 (Or.inl mem1)).up up32 (Or.inl mem1)).up up33 (Or.inl mem1)).up up34 (Or.inl mem1)).up up35 (Or.inl mem1)
  have z35 : H35.size = H26.size := by have := up27.1; have := up28.1; have := up29.1; have := up30.1; have := up31.1; have := up32.1; have := up33.1; have := up34.1; have := up35.1; omega
  have t35 : zT H35 = zT H26 := by have := up27.2.1; have := up28.2.1; have := up29.2.1; have := up30.2.1; have := up31.2.1; have := up32.2.1; have := up33.2.1; have := up34.2.1; have := up35.2.1; omega
  have E23 := mo_x M8 E26
  have E20 := mo_x M7 E23
  have E17 := mo_x M6 E20
  have E14 := mo_x M5 E17
  have E9 := mo_x M4 E14
  have E6 := mo_x M3 E9
  have E3 := mo_x M2 E6
  have E0 := mo_x M1 E3
  have hx1 : x < H.size := hxl
  -- all at the end
  have hLe : zRL (zR0 x H.size H1.size H3.size H4.size H23.size H24.size H14.size H18.size H21.size) = [x, H.size, H1.size, H3.size, H4.size, H23.size, H24.size, H14.size, H18.size, H21.size] := zR0_L
  have li : zLi G H35 [x, H.size, H1.size, H3.size, H4.size, H23.size, H24.size, H14.size, H18.size, H21.size] := fun q z => by
    simp only [List.mem_cons, List.not_mem_nil, or_false] at z
    unfold zFr
    omega
  have A35 := A9.mo E9 (nx _ (by omega))
  have tx : ∀ {k : Nat} {t : List Nat}, zTx G [] (zS G).heap k t → zTx G [x, H.size, H1.size, H3.size, H4.size, H23.size, H24.size, H14.size, H18.size, H21.size] H35 k t := fun h => h.up0 ho35 li
  have ad35 : zAd G [x, H.size, H1.size, H3.size, H4.size, H23.size, H24.size, H14.size, H18.size, H21.size] H35 H6.size zHome := ⟨by simp only [List.mem_cons, List.not_mem_nil, or_false]; omega, A35.is, ka, kb, kc, kc, A35.fd rfl, A35.fd rfl, A35.fd rfl, A35.fd rfl, tx txa, tx txb, tx txc, tx txc⟩
  have e35 : zAnO G [x, H.size, H1.size, H3.size, H4.size, H23.size, H24.size, H14.size, H18.size, H21.size] H35 H9.size zEmp := e14.st E14 (fun q z => by rw [List.mem_singleton.mp z]; exact Or.inl (by simp)) (fun q z => by
    simp only [List.mem_cons, List.not_mem_nil, or_false] at z ⊢
    omega)
  have J35 := J20.mo E20 (nx _ (by omega))
  have K35 := J23.mo E23 (nx _ (by omega))
  have noF : ∀ {α : Type} {P : Nat → α → Prop}, zF2 P [] [] := ⟨rfl, fun i x y hx => by cases hx⟩
  have hfin : x ∈ zR0 x H.size H1.size H3.size H4.size H23.size H24.size H14.size H18.size H21.size 0 := mem1
  refine sN_init_165 ⟨rfl, zK0 x H.size H3.size H23.size H14.size H18.size H21.size H17.size H20.size H6.size H9.size, zR0 x H.size H1.size H3.size H4.size H23.size H24.size H14.size H18.size H21.size, (fun i => if i = 1 then 16 else if i = 2 then 16 else if i = 3 then 16 else 0), rfl, ho35, ?_, ?_, rfl, rfl, E0, ?_⟩
  · refine ⟨⟨by rw [hLe]; exact li, ?_⟩, mem1, ⟨H6.size, H9.size, kc, .null, .null, o35, ?_⟩, ⟨List.mem_cons_self, by decide, by decide, H1.size, by simp [zR0], T1.mo E3 (nx _ (by omega)) (nx _ (by omega))⟩, ⟨List.mem_cons_self, by decide, by decide, H4.size, by simp [zR0], T5.mo E6 (nx _ (by omega)) (nx _ (by omega))⟩, ⟨List.mem_cons_self, by decide, by decide, H24.size, by simp [zR0], T26.mo E26 (nx _ (by omega)) (nx _ (by omega))⟩, ⟨mem1, ?_, k16, [], fun _ => l16, (fun z => absurd rfl z), L17.mo E17 (nx _ (by omega)) (nx _ (by omega)) (fun x hx => by cases hx), noF⟩, ⟨mem1, ?_, k19, [], fun _ => l19, (fun z => absurd rfl z), L20.mo E20 (nx _ (by omega)) (nx _ (by omega)) (fun x hx => by cases hx), noF⟩, ⟨mem1, ?_, k22, [], fun _ => l22, (fun z => absurd rfl z), L23.mo E23 (nx _ (by omega)) (nx _ (by omega)) (fun x hx => by cases hx), noF⟩, ?_⟩
    · intro i j hi hj hij q hq hq2
      have c : i = 0 ∨ i = 1 ∨ i = 2 ∨ i = 3 ∨ i = 4 ∨ i = 5 ∨ i = 6 ∨ i = 7 := (by omega)
      have c2 : j = 0 ∨ j = 1 ∨ j = 2 ∨ j = 3 ∨ j = 4 ∨ j = 5 ∨ j = 6 ∨ j = 7 := (by omega)
      rcases c with rfl | rfl | rfl | rfl | rfl | rfl | rfl | rfl <;> rcases c2 with rfl | rfl | rfl | rfl | rfl | rfl | rfl | rfl <;> simp only [zR0, List.mem_cons, List.not_mem_nil, or_false] at hq hq2 <;> omega
    · rw [hLe]
      exact ⟨ad35, zOa.none, e35, zOa.none, tx txc⟩
    · rw [hLe]
      intro q z
      simp only [zR0, List.mem_cons, List.not_mem_nil, or_false] at z ⊢
      omega
    · rw [hLe]
      intro q z
      simp only [zR0, List.mem_cons, List.not_mem_nil, or_false] at z ⊢
      omega
    · rw [hLe]
      intro q z
      simp only [zR0, List.mem_cons, List.not_mem_nil, or_false] at z ⊢
      omega
    · rw [hLe]
      refine ⟨?_, J35.is, J35.fd rfl, ?_, K35.is, K35.fd rfl, ad35, e35⟩
      · simp only [zK0, List.mem_cons, List.not_mem_nil, or_false]; omega
      · simp only [zK0, List.mem_cons, List.not_mem_nil, or_false]; omega
  · rw [hLe]
    intro q z
    simp only [List.mem_cons, List.not_mem_nil, or_false] at z
    omega
  · exact ⟨by have := U10.1; omega, by have := U10.2; omega⟩
end KN
