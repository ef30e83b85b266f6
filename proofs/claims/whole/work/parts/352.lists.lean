/-- what an array of a list shows -/
def zAf (xs : List Nat) (j : Nat) : Value := va_rf xs[j]?
theorem zAf_rf (xs : List Nat) (j : Nat) : zRf (zAf xs j) := zRf_rf _
theorem zAf_at {xs : List Nat} {j : Nat} (h : j < xs.length) : zAf xs j = .ref (xs.getD j 0) := by
  unfold zAf
  rw [List.getElem?_eq_getElem h, List.getD_eq_getElem?_getD, List.getElem?_eq_getElem h]
  rfl
theorem zAf_no {xs : List Nat} {j : Nat} (h : xs.length ≤ j) : zAf xs j = .null := by
  unfold zAf
  rw [List.getElem?_eq_none h]
  rfl
def zDv (G : zG) (e : Nat) : Prop := va_Z "java/util/ArrayList" "DEFAULTCAPACITY_EMPTY_ELEMENTDATA" "[Ljava/lang/Object;" (.ref e) (zFr G) (zS G) (zS G).heap
/-- what else the start gives: the lists' first array, the mirror of Object[] -/
def zCu (G : zG) : Prop := zCs G ∧ (∃ k : Nat, zDv G k ∧ k < (zS G).heap.size ∧ zArr G (zS G).heap k (.object "java/lang/Object") 0 (fun _ => .null)) ∧ ∃ mi : Nat, va_Mi "[Ljava/lang/Object;" mi (zS G)
/-- a class whose objects may lie in a list -/
def zEl (ci : Nat) : Prop := ∃ (C : String) (T : u_T) (N : Nat), classes[ci]? = some (C, T, N) ∧ Cond.castable C "java/lang/Object" ∈ lw_tbl
/-- an ArrayList at a, its array at e (m places), with objects of the class ci -/
def zAL (G : zG) (H : Heap) (a e m ci : Nat) (xs : List Nat) : Prop := a ≠ e ∧ zFr G a ∧ (∃ mc : Int32, zObj G H a 5 [.ref e, .int (nI xs.length), .int mc]) ∧ zArr G H e (.object "java/lang/Object") m (zAf xs) ∧ ((m = 0 ∧ zDv G e) ∨ (10 ≤ m ∧ zFr G e)) ∧ (∀ x ∈ xs, zIs G H x ci) ∧ xs.length ≤ m ∧ m ≤ 1000
theorem zAL.mo {G : zG} {S : List Nat} {H H1 : Heap} {a e m ci : Nat} {xs : List Nat} (h : zAL G H a e m ci xs) (q : zMo S H H1) (ha : a ∉ S) (he : e ∉ S) (hx : ∀ x ∈ xs, x ∉ S) : zAL G H1 a e m ci xs := by
  obtain ⟨h1, h2, ⟨mc, h3⟩, h4, h5, h6, h7⟩ := h
  exact ⟨h1, h2, ⟨mc, h3.mo q ha⟩, h4.mo q he, h5, fun x z => (h6 x z).mo q (hx x z), h7⟩
theorem zAL.lt {G : zG} {H : Heap} {a e m ci : Nat} {xs : List Nat} (h : zAL G H a e m ci xs) : a < H.size ∧ e < H.size := by
  obtain ⟨h1, h2, ⟨mc, h3⟩, h4, h5⟩ := h
  exact ⟨h3.lt, h4.lt⟩
theorem zAL.is {G : zG} {H : Heap} {a e m ci : Nat} {xs : List Nat} (h : zAL G H a e m ci xs) : zIs G H a 5 := by
  obtain ⟨h1, h2, ⟨mc, h3⟩, h4, h5⟩ := h
  exact h3.is
section JL
variable {G : zG} {d : Nat} {H : Heap} {a e m ci b : Nat} {xs : List Nat}
theorem c_Al_init (hC : zCu G) (hd : 3 ≤ d) {b0 b2 : Value} (ho : zObj G H a 5 [b0, .int 0, b2]) (ha : zFr G a) : zC G d M_Al_init [.ref a] H (zPv fun H1 => (∃ k, zAL G H1 a k 0 ci [] ∧ k < (zS G).heap.size) ∧ zMo [a] H H1 ∧ zUs 0 0 H H1) := by
  obtain ⟨k, hk, hkl, hka⟩ := hC.2.1
  refine zC_in [some (.ref a)] pn_Al_init hC.1.1 rfl (Nat.le_of_ble_eq_true rfl) rfl (fun ho2 => ?_)
  have i2 : zC G (d - 1 - 1) M_AC_init [.ref a] H (zPv fun H1 => H1 = H) := by
    refine zC_in [some (.ref a)] pn_AC_init hC.1.1 rfl (Nat.le_of_ble_eq_true rfl) rfl (fun ho2 => ?_)
    exact sAC_init_0 (by omega) (Nat.le_of_ble_eq_true rfl) (sAC_init_4 ⟨rfl, rfl⟩)
  have i1 : zC G (d - 1) M_AL_init [.ref a] H (zPv fun H1 => zObj G H1 a 5 [b0, .int 0, .int 0] ∧ zUp a H H1) := by
    refine zC_in [some (.ref a)] pn_AL_init hC.1.1 rfl (Nat.le_of_ble_eq_true rfl) rfl (fun ho2 => ?_)
    refine sAL_init_0 (by omega) (Nat.le_of_ble_eq_true rfl) i2 ?_
    rintro H1 rfl - - -
    refine sAL_init_4 ho ha (fun H2 h2 u2 => ?_)
    exact sAL_init_9 ⟨rfl, h2, u2⟩
  refine sAl_init_0 (by omega) (Nat.le_of_ble_eq_true rfl) i1 ?_
  rintro H1 ⟨h1, u1⟩ ho1 - -
  refine sAl_init_4 zRf_ref hk h1 ha (fun H2 h2 u2 => ?_)
  have hne : a ≠ k := fun z => by subst z; exact absurd ha (Nat.not_le.mpr hkl)
  have hka2 : zArr G H2 k (.object "java/lang/Object") 0 (zAf []) := by
    have e1 : H2[k]? = (zS G).heap[k]? := by
      rw [u2.2.2 k (Ne.symm hne), u1.2.2 k (Ne.symm hne)]
      exact ho2.2.1 k hkl
    exact (hka.kept e1).to (fun j hj => absurd hj (Nat.not_lt_zero j))
  exact sAl_init_11 ⟨rfl, ⟨k, ⟨hne, ha, ⟨_, h2⟩, hka2, Or.inl ⟨rfl, hk⟩, (fun x hx => by cases hx), Nat.le_refl _, by decide⟩, hkl⟩, u1.mo.up u2 (Or.inl (List.mem_singleton.mpr rfl)), u1.us.tr u2.us (c1 := 0) (s1 := 0) (c2 := 0) (s2 := 0) (by omega) (by omega)⟩
theorem c_Al_size (hC : zCs G) (h : zAL G H a e m ci xs) : zC G d M_Al_size [.ref a] H (zRd H (nI xs.length)) := by
  obtain ⟨h1, h2, ⟨mc, h3⟩, h4, h5⟩ := h
  refine zC_in [some (.ref a)] pn_Al_size hC.1 rfl (Nat.le_of_ble_eq_true rfl) rfl (fun ho2 => ?_)
  exact sAl_size_0 (h3.fd rfl) ⟨_, rfl, rfl, rfl⟩
theorem c_Ob_checkIndex (hC : zCs G) (hd : 1 ≤ d) {i n : Nat} (hi : i < n) (hn : n < 2 ^ 31) : zC G d M_Ob_checkIndex [.int (nI i), .int (nI n)] H (zRd H (nI i)) := by
  refine zC_in [some (.int (nI i)), some (.int (nI n))] pn_Ob_checkIndex hC.1 rfl (Nat.le_of_ble_eq_true rfl) rfl (fun ho => ?_)
  refine sOb_checkIndex_0 hd (Nat.le_of_ble_eq_true rfl) (c_Pc_checkIndex hC zRf_null hi hn) ?_
  rintro r H1 ⟨rfl, rfl⟩ - - -
  exact sOb_checkIndex_6 ⟨_, rfl, rfl, rfl⟩
theorem c_Al_elementData (hC : zCs G) (h : zAL G H a e m ci xs) {i : Nat} (hi : i < xs.length) : zC G d M_Al_elementData [.ref a, .int (nI i)] H (zPr fun r H1 => r = .ref (xs.getD i 0) ∧ H1 = H) := by
  obtain ⟨h1, h2, ⟨mc, h3⟩, h4, h5, h6, h7, h8⟩ := h
  refine zC_in [some (.ref a), some (.int (nI i))] pn_Al_elementData hC.1 rfl (Nat.le_of_ble_eq_true rfl) rfl (fun ho2 => ?_)
  exact sAl_elementData_0 zRf_ref (h3.fd rfl) rfl h4 (vp_in_nI (by omega) (by omega)) (by rw [nI_clamp (by omega)]; exact zAf_at hi) ⟨_, rfl, zRf_ref, rfl, rfl⟩
theorem c_Al_get (hC : zCs G) (hd : 2 ≤ d) (h : zAL G H a e m ci xs) {i : Nat} (hi : i < xs.length) : zC G d M_Al_get [.ref a, .int (nI i)] H (zPr fun r H1 => r = .ref (xs.getD i 0) ∧ H1 = H) := by
  have h0 := h
  obtain ⟨h1, h2, ⟨mc, h3⟩, h4, h5, h6, h7, h8⟩ := h
  refine zC_in [some (.ref a), some (.int (nI i))] pn_Al_get hC.1 rfl (Nat.le_of_ble_eq_true rfl) rfl (fun ho2 => ?_)
  refine sAl_get_0 (h3.fd rfl) (by omega) (Nat.le_of_ble_eq_true rfl) (c_Ob_checkIndex hC (by omega) hi (by omega)) ?_
  rintro r H1 ⟨rfl, rfl⟩ - - -
  refine sAl_get_8 rfl (by omega) (Nat.le_of_ble_eq_true rfl) h3.is (c_Al_elementData hC h0 hi) ?_
  rintro r H1 - ⟨rfl, rfl⟩ - - -
  exact sAl_get_14 zRf_ref ⟨_, rfl, zRf_ref, rfl, rfl⟩
theorem getD_mem {xs : List Nat} {i : Nat} (h : i < xs.length) : xs.getD i 0 ∈ xs := by
  rw [List.getD_eq_getElem?_getD, List.getElem?_eq_getElem h]
  exact List.getElem_mem h
theorem c_Al_set (hC : zCs G) (hd : 2 ≤ d) (h : zAL G H a e m ci xs) {i : Nat} (hi : i < xs.length) (hb : zIs G H b ci) (hE : zEl ci) (hx : ∀ x ∈ xs, x ≠ e) (hbe : b ≠ e) : zC G d M_Al_set [.ref a, .int (nI i), .ref b] H (zPr fun _ H1 => zAL G H1 a e m ci (xs.set i b) ∧ zMo [e] H H1 ∧ zUs 0 0 H H1) := by
  have h0 := h
  obtain ⟨h1, h2, ⟨mc, h3⟩, h4, h5, h6, h7, h8⟩ := h
  have he : zFr G e := by
    rcases h5 with h5 | h5
    · omega
    · exact h5.2
  obtain ⟨C, T, N, hE1, hE2⟩ := hE
  refine zC_in [some (.ref a), some (.int (nI i)), some (.ref b), none] pn_Al_set hC.1 rfl (Nat.le_of_ble_eq_true rfl) rfl (fun ho2 => ?_)
  refine sAl_set_0 (h3.fd rfl) (by omega) (Nat.le_of_ble_eq_true rfl) (c_Ob_checkIndex hC (by omega) hi (by omega)) ?_
  rintro r H1 ⟨rfl, rfl⟩ - - -
  refine sAl_set_8 rfl (by omega) (Nat.le_of_ble_eq_true rfl) h3.is (c_Al_elementData hC h0 hi) ?_
  rintro r H1 - ⟨rfl, rfl⟩ - - -
  refine sAl_set_14 zRf_ref zRf_ref zRf_ref (h3.fd rfl) ?_
  refine zw_aast dAl_set_21 h4 (vp_in_nI (by omega) (by omega)) he hb hE1 hE2 (fun H2 h2' u2 => ?_)
  have na : a ∉ [e] := fun z => h1 (List.mem_singleton.mp z)
  refine sAl_set_22 zRf_ref ⟨_, rfl, zRf_ref, ⟨h1, h2, ⟨mc, by rw [List.length_set]; exact h3.mo u2.mo na⟩, h2'.to (fun j hj => ?_), h5, fun x hx2 => ?_, by rw [List.length_set]; exact h7, h8⟩, u2.mo, u2.us⟩
  · rw [nI_clamp (by omega)]
    unfold updV zAf
    rw [List.getElem?_set]
    by_cases q : j = i
    · rw [if_pos q, if_pos q.symm, if_pos hi]; rfl
    · rw [if_neg q, if_neg (Ne.symm q)]
  · rcases List.mem_or_eq_of_mem_set hx2 with q | rfl
    · exact (h6 x q).mo u2.mo (fun z => hx x q (List.mem_singleton.mp z))
    · exact hb.mo u2.mo (fun z => hbe (List.mem_singleton.mp z))
theorem c_Ar_copyOf_1 (hC : zCu G) (hd : 2 ≤ d) {k : Nat} (hA : zArr G H e (.object "java/lang/Object") m (zAf xs)) (he : zFr G e) (hmk : m < k) (hk : k ≤ 65536) (hx : ∀ x ∈ xs, zIs G H x ci) (hE : zEl ci) (hlen : xs.length ≤ m) (hR : zRm G H 1 k) : zC G d M_Ar_copyOf_1 [.ref e, .int (nI k)] H (zPr fun r H1 => r = .ref H.size ∧ zArr G H1 H.size (.object "java/lang/Object") k (zAf xs) ∧ zMo [] H H1 ∧ zUs 1 k H H1) := by
  obtain ⟨mi, hmi⟩ := hC.2.2
  obtain ⟨C, T, N, hE1, hE2⟩ := hE
  refine zC_in [some (.ref e), some (.int (nI k))] pn_Ar_copyOf_1 hC.1.1 rfl (Nat.le_of_ble_eq_true rfl) rfl (fun ho2 => ?_)
  have inner : zC G (d - 1) M_Ar_copyOf_2 [.ref e, .int (nI k), .ref mi] H (zPr fun r H1 => r = .ref H.size ∧ zArr G H1 H.size (.object "java/lang/Object") k (zAf xs) ∧ zMo [] H H1 ∧ zUs 1 k H H1) := by
    refine zC_in [some (.ref e), some (.int (nI k)), some (.ref mi), none] pn_Ar_copyOf_2 hC.1.1 rfl (Nat.le_of_ble_eq_true rfl) rfl (fun ho2 => ?_)
    refine sAr_copyOf_2_0 zRf_ref ?_
    refine zw_ldcM dAr_copyOf_2_1 zcx_Ar_110 hmi ?_
    refine zw_acmp_ne (rx := some mi) (ry := some mi) 13 dAr_copyOf_2_3 (by decide) (fun z => absurd rfl z) (fun _ => ?_)
    refine sAr_copyOf_2_6 ?_
    refine zw_anew (N := k) dAr_copyOf_2_7 zcx_Ar_2 zao_O (nI_pos (by omega)) (nI_clamp (by omega)) (by omega) hR.1 hR.2 (fun H1 hB hN => ?_)
    have hA1 := hA.ex hN.mo
    refine sAr_copyOf_2_10 zRf_ref hA1 (by omega) (Nat.le_of_ble_eq_true rfl) (c_Ma_min hC.1 _ _) ?_
    rintro r H2 ⟨rfl, rfl⟩ ho2 - -
    rw [if_neg (nI_nlt (by omega) (by omega))]
    have ec : (nI m).toNatClampNeg = m := nI_clamp (by omega)
    refine zw_copy dAr_copyOf_2_35 (by omega) zcp_Ar_150 zcp_nat zcp_stat zcp_init hA1 hB (zFr_new (by assumption)) (by decide) (by decide) (nI_pos (by omega)) (by rw [ec, sb_cl0]; omega) (by rw [ec, sb_cl0]; omega) (fun i hi => ?_) (Nat.le_of_ble_eq_true rfl) (fun H3 hB3 hu => ?_)
    · refine Or.inr ⟨rfl, ?_⟩
      by_cases q : (0 : Int32).toNatClampNeg + i < xs.length
      · exact Or.inr ⟨_, ci, N, C, T, zAf_at q, (hx _ (getD_mem q)).ex hN.mo, hE1, hE2⟩
      · exact Or.inl (zAf_no (by omega))
    · refine sAr_copyOf_2_38 zRf_ref ⟨_, rfl, zRf_ref, rfl, hB3.to (fun j hj => ?_), hN.mo.up hu (Or.inr (Nat.le_refl _)), hN.us.tr hu.us (c2 := 0) (s2 := 0) (by omega) (by omega)⟩
      rw [ec, sb_cl0]
      by_cases q : j < m
      · rw [pk_cpy_in (Nat.zero_le _) (by omega), Nat.zero_add, Nat.sub_zero]
      · rw [pk_cpy_out (Or.inr (by omega))]
        exact (zAf_no (by omega)).symm
  refine sAr_copyOf_1_0 zRf_ref ?_
  refine zw_getCO dAr_copyOf_1_3 (by omega) zgc_Ar_86 zgc_1 zgc_2 zgc_3 zgc_4 hmi hA he (Nat.le_of_ble_eq_true rfl) ?_
  refine sAr_copyOf_1_6 zRf_ref zRf_ref (by omega) (Nat.le_of_ble_eq_true rfl) inner ?_
  intro r H1 hr hP _ _ _
  exact sAr_copyOf_1_9 hr ⟨_, rfl, hr, hP⟩
/-- grow(): a larger array -/
theorem c_Al_grow (hC : zCu G) (hd : 4 ≤ d) (h : zAL G H a e m ci xs) (hE : zEl ci) (hm : xs.length = m) (hm2 : m ≤ 400) (hx : ∀ x ∈ xs, x ≠ a) (hR : zRm G H 1 (10 + 2 * m)) :
    zC G d M_Al_grow_0 [.ref a] H (zPr fun r H1 => r = .ref H.size ∧ ∃ m', zAL G H1 a H.size m' ci xs ∧ m < m' ∧ m' ≤ 10 + 2 * m ∧ zMo [a] H H1 ∧ zUs (m' - m) (4 * (m' - m)) H H1) := by
  obtain ⟨h1, h2, ⟨mc, h3⟩, h4, h5, h6, h7, h8⟩ := h
  have hlt := h3.lt
  refine zC_in [some (.ref a)] pn_Al_grow_0 hC.1.1 rfl (Nat.le_of_ble_eq_true rfl) rfl (fun ho2 => ?_)
  have fin : ∀ (H1 H2 : Heap) (m' : Nat), zMo [] H H1 → zUs 1 m' H H1 → zArr G H1 H.size (.object "java/lang/Object") m' (zAf xs) → m < m' → 10 ≤ m' → m' ≤ 10 + 2 * m → m' ≤ 4 * (m' - m) → zObj G H2 a 5 [.ref H.size, .int (nI xs.length), .int mc] → zUp a H1 H2 → ∃ m', zAL G H2 a H.size m' ci xs ∧ m < m' ∧ m' ≤ 10 + 2 * m ∧ zMo [a] H H2 ∧ zUs (m' - m) (4 * (m' - m)) H H2 := by
    intro H1 H2 m' mo1 us1 hA1 hlt1 h10 hle hpot ho3 up
    have m2 : zMo [a] H H2 := (mo1.mono (fun q z => by cases z)).up up (Or.inl (List.mem_singleton.mpr rfl))
    refine ⟨m', ⟨by omega, h2, ⟨mc, ho3⟩, hA1.mo up.mo (fun z => by have := List.mem_singleton.mp z; omega), Or.inr ⟨h10, zFr_new ho2⟩, fun x z => (h6 x z).mo m2 (fun w => hx x z (List.mem_singleton.mp w)), by omega, by omega⟩, hlt1, hle, m2, ?_⟩
    exact us1.tr up.us (c2 := 0) (s2 := 0) (by omega) (by omega)
  have inner : zC G (d - 1) M_Al_grow_1 [.ref a, .int (nI (xs.length + 1))] H (zPr fun r H1 => r = .ref H.size ∧ ∃ m', zAL G H1 a H.size m' ci xs ∧ m < m' ∧ m' ≤ 10 + 2 * m ∧ zMo [a] H H1 ∧ zUs (m' - m) (4 * (m' - m)) H H1) := by
    refine zC_in [some (.ref a), some (.int (nI (xs.length + 1))), none, none] pn_Al_grow_1 hC.1.1 rfl (Nat.le_of_ble_eq_true rfl) rfl (fun ho3 => ?_)
    refine sAl_grow_1_0 (h3.fd rfl) h4 (fun z => ?_) (fun z => ?_)
    · have hm0 : 0 < m := (nI_ltI (a := 0) (by decide) (by omega)).mp z
      have hb : 10 ≤ m ∧ zFr G e := by
        rcases h5 with q | q
        · omega
        · exact q
      refine sAl_grow_1_20 (by omega) (Nat.le_of_ble_eq_true rfl) (P := fun r H1 => r = nI (m + max 1 (m / 2)) ∧ H1 = H) ?_ ?_
      · rw [pk_sub (by omega), pk_shrN (by omega) _ 1 (by decide), hm]
        have := c_AS_newLength (H := H) hC.1 (d := d - 1 - 1) (by omega) (o := m) (g := 1) (p := m / 2) (by omega) (by omega) (by omega) (by omega)
        rw [show m + 1 - m = 1 by omega]
        exact this
      · rintro r H1 ⟨rfl, rfl⟩ - - -
        have e1 : max 1 (m / 2) = m / 2 := by omega
        rw [e1]
        refine sAl_grow_1_30 zRf_ref (h3.fd rfl) (by omega) (Nat.le_of_ble_eq_true rfl) (c_Ar_copyOf_1 hC (by omega) h4 hb.2 (by omega) (by omega) h6 hE h7 (hR.le 1 _ (by omega) (by omega))) ?_
        rintro r H2 - ⟨rfl, hA2, mo2, us2⟩ - - -
        refine sAl_grow_1_40 zRf_ref (h3.ex mo2) h2 (fun H3 h3' u3 => ?_)
        exact sAl_grow_1_44 zRf_ref ⟨_, rfl, zRf_ref, rfl, fin H2 H3 _ mo2 us2 hA2 (by omega) (by omega) (by omega) (by omega) h3' u3⟩
    · have hm0 : m = 0 := by
        rcases Nat.eq_zero_or_pos m with q | q
        · exact q
        · exact absurd (show nI 0 < nI m from nI_lt q (by omega)) z
      subst hm0
      have hb : zDv G e := by
        rcases h5 with q | q
        · exact q.2
        · omega
      refine sAl_grow_1_10 zRf_ref zRf_ref (h3.fd rfl) hb ?_
      refine zw_acmp_eq (rx := some e) (ry := some e) 45 dAl_grow_1_17 (by decide) (fun _ => ?_) (fun z => absurd rfl z)
      refine sAl_grow_1_45 zRf_ref (by omega) (Nat.le_of_ble_eq_true rfl) (c_Ma_max hC.1 _ _) ?_
      rintro r H1 ⟨rfl, rfl⟩ - - -
      rw [hm, if_neg (show ¬ (10 : Int32) < nI (0 + 1) by decide)]
      refine zw_anew (N := 10) dAl_grow_1_52 zcx_Al_7 zao_O (by decide) (by decide) (by decide) hR.1 (by have := hR.2; omega) (fun H2 hB hN => ?_)
      refine sAl_grow_1_55 zRf_ref (h3.ex hN.mo) h2 (fun H3 h3' u3 => ?_)
      refine sAl_grow_1_59 zRf_ref ⟨_, rfl, zRf_ref, rfl, fin H2 H3 10 hN.mo hN.us (hB.to (fun j hj => (zAf_no (by omega)).symm)) (by omega) (by omega) (by omega) (by omega) h3' u3⟩
  refine sAl_grow_0_0 (h3.fd rfl) (by omega) (Nat.le_of_ble_eq_true rfl) h3.is (by rw [nI_1]; exact inner) ?_
  intro r H1 hr hP _ _ _
  exact sAl_grow_0_10 hr ⟨_, rfl, hr, hP⟩
/-- add(b) -/
theorem c_Al_add (hC : zCu G) (hd : 6 ≤ d) (h : zAL G H a e m ci xs) (hE : zEl ci) (hb : zIs G H b ci) (hm2 : xs.length ≤ 300) (hx : ∀ x ∈ xs, x ≠ a ∧ x ≠ e) (hba : b ≠ a) (hbe : b ≠ e) (hR : zRm G H 1 (10 + 2 * xs.length)) :
    zC G d M_Al_add_0 [.ref a, .ref b] H (zPi fun _ H1 => ∃ e' m', zAL G H1 a e' m' ci (xs ++ [b]) ∧ (e' = e ∨ H.size ≤ e') ∧ m ≤ m' ∧ (m' = m ∨ m' ≤ 10 + 2 * xs.length) ∧ zMo [a, e] H H1 ∧ zUs (m' - m) (4 * (m' - m)) H H1) := by
  obtain ⟨h1, h2, ⟨mc, h3⟩, h4, h5, h6, h7, h8⟩ := h
  have hlt := h3.lt
  have hblt := hb.lt
  refine zC_in [some (.ref a), some (.ref b)] pn_Al_add_0 hC.1.1 rfl (Nat.le_of_ble_eq_true rfl) rfl (fun ho2 => ?_)
  refine sAl_add_0_0 (h3.fd rfl) h3 h2 (fun H1 h3' u1 => ?_)
  have ne : e ∉ [a] := fun z => h1 (List.mem_singleton.mp z).symm
  have hb1 := hb.mo u1.mo (fun z => hba (List.mem_singleton.mp z))
  have hAL1 : zAL G H1 a e m ci xs := ⟨h1, h2, ⟨_, h3'⟩, h4.mo u1.mo ne, h5, fun x z => (h6 x z).mo u1.mo (fun w => (hx x z).1 (List.mem_singleton.mp w)), h7, h8⟩
  have e1 : H1.size = H.size := u1.1
  obtain ⟨C, T, N, hE1, hE2⟩ := id hE
  /- the store, and the size -/
  have fin : ∀ (H2 : Heap) (e' m' : Nat), zAL G H2 a e' m' ci xs → xs.length < m' → zIs G H2 b ci → zMo [a] H H2 → zUs (m' - m) (4 * (m' - m)) H H2 → (e' = e ∨ H.size ≤ e') → m ≤ m' → (m' = m ∨ m' ≤ 10 + 2 * xs.length) → (∀ x ∈ xs, x ≠ e') → b ≠ e' → ∀ o, zW G (d - 1) M_Al_add_1 14 [some (.ref a), some (.ref b), o, some (.int (nI xs.length))] (.ref b :: .int (nI xs.length) :: .ref e' :: []) H2 (zPv fun H3 => ∃ e' m', zAL G H3 a e' m' ci (xs ++ [b]) ∧ (e' = e ∨ H.size ≤ e') ∧ m ≤ m' ∧ (m' = m ∨ m' ≤ 10 + 2 * xs.length) ∧ zMo [a, e] H H3 ∧ zUs (m' - m) (4 * (m' - m)) H H3) := by
    intro H2 e' m' hA2 hlm hb2 mo2 us2 k1 k2 k3 k4 k5 o
    obtain ⟨g1, g2, ⟨mc2, g3⟩, g4, g5, g6, g7, g8⟩ := hA2
    have he' : zFr G e' := by
      rcases g5 with q | q
      · omega
      · exact q.2
    refine zw_aast dAl_add_1_14 g4 (vp_in_nI (by omega) (by omega)) he' hb2 hE1 hE2 (fun H3 h3A u3 => ?_)
    have na : a ∉ [e'] := fun z => g1 (List.mem_singleton.mp z)
    refine sAl_add_1_15 (g3.mo u3.mo na) h2 (fun H4 h4O u4 => ?_)
    have ne' : e' ∉ [a] := fun z => g1 (List.mem_singleton.mp z).symm
    have el : (xs ++ [b]).length = xs.length + 1 := by simp
    rw [nI_1] at h4O
    refine sAl_add_1_22 ⟨rfl, e', m', ⟨g1, g2, ⟨mc2, by rw [el]; exact h4O⟩, (h3A.mo u4.mo ne').to (fun j hj => ?_), g5, fun x hx2 => ?_, by omega, g8⟩, k1, k2, k3, ?_, (us2.tr u3.us (c := m' - m) (s := 4 * (m' - m)) (c2 := 0) (s2 := 0) (by omega) (by omega)).tr u4.us (c2 := 0) (s2 := 0) (by omega) (by omega)⟩
    · rw [nI_clamp (by omega)]
      unfold updV zAf
      by_cases q : j = xs.length
      · rw [if_pos q, q, List.getElem?_append_right (Nat.le_refl _), Nat.sub_self]; rfl
      · rw [if_neg q]
        by_cases q2 : j < xs.length
        · rw [List.getElem?_append_left q2]
        · rw [List.getElem?_eq_none (by omega), List.getElem?_eq_none (by omega)]
    · have hz : ∀ y, zIs G H2 y ci → y ≠ e' → y ≠ a → zIs G H4 y ci := fun y p1 p2 p3 => (p1.mo u3.mo (fun z => p2 (List.mem_singleton.mp z))).mo u4.mo (fun z => p3 (List.mem_singleton.mp z))
      rcases List.mem_append.mp hx2 with q | q
      · exact hz x (g6 x q) (k4 x q) (hx x q).1
      · rw [List.mem_singleton.mp q]
        exact hz b hb2 k5 hba
    · refine ((mo2.mono (S := [a, e]) (fun q z => Or.inl (by rw [List.mem_singleton.mp z]; exact List.mem_cons_self))).up u3 ?_).up u4 (Or.inl List.mem_cons_self)
      rcases k1 with rfl | k1
      · exact Or.inl (List.mem_cons_of_mem _ (List.mem_singleton.mpr rfl))
      · exact Or.inr k1
  have inner : zC G (d - 1) M_Al_add_1 [.ref a, .ref b, .ref e, .int (nI xs.length)] H1 (zPv fun H3 => ∃ e' m', zAL G H3 a e' m' ci (xs ++ [b]) ∧ (e' = e ∨ H.size ≤ e') ∧ m ≤ m' ∧ (m' = m ∨ m' ≤ 10 + 2 * xs.length) ∧ zMo [a, e] H H3 ∧ zUs (m' - m) (4 * (m' - m)) H H3) := by
    refine zC_in [some (.ref a), some (.ref b), some (.ref e), some (.int (nI xs.length))] pn_Al_add_1 hC.1.1 rfl (Nat.le_of_ble_eq_true rfl) rfl (fun ho3 => ?_)
    refine sAl_add_1_0 (h4.mo u1.mo ne) (fun z => ?_) (fun z => ?_)
    · refine sAl_add_1_11 zRf_ref zRf_ref ?_
      refine fin H1 e m hAL1 ?_ hb1 u1.mo u1.us (Or.inl rfl) (Nat.le_refl _) (Or.inl rfl) (fun x z => (hx x z).2) hbe _
      rcases Nat.lt_or_ge xs.length m with q | q
      · exact q
      · exact absurd (by rw [show xs.length = m by omega]) z
    · have hm : xs.length = m := (nI_eq (by omega) (by omega)).mp z
      refine sAl_add_1_6 (by omega) (Nat.le_of_ble_eq_true rfl) hAL1.is (c_Al_grow hC (by omega) hAL1 hE hm (by omega) (fun x z => (hx x z).1) (hR.us (c1 := 0) (s1 := 0) u1.us 1 _ (by omega) (by omega))) ?_
      rintro r H2 - ⟨rfl, m', g1, g2, g3, g4, g5⟩ ho4 - -
      refine sAl_add_1_10 zRf_ref zRf_ref ?_
      refine fin H2 H1.size m' g1 (by omega) (hb1.mo g4 (fun z => hba (List.mem_singleton.mp z))) (u1.mo.tr g4 (fun q z => Or.inl z) (fun q z => Or.inl z)) (u1.us.tr g5 (c1 := 0) (s1 := 0) (by omega) (by omega)) (Or.inr (by omega)) (by omega) (Or.inr (by omega)) (fun x z => ?_) (by omega) _
      have := (h6 x z).lt
      omega
  refine sAl_add_0_10 zRf_ref zRf_ref (h3'.fd rfl) (h3'.fd rfl) (by omega) (Nat.le_of_ble_eq_true rfl) h3'.is inner ?_
  intro H2 hP _ _ _
  exact sAl_add_0_23 rfl ⟨_, rfl, hP⟩
/-- remove(i) -/
theorem c_Al_remove (hC : zCu G) (hd : 2 ≤ d) (h : zAL G H a e m ci xs) (hE : zEl ci) {i : Nat} (hi : i < xs.length) (hx : ∀ x ∈ xs, x ≠ a ∧ x ≠ e) :
    zC G d M_Al_remove [.ref a, .int (nI i)] H (zPr fun _ H1 => zAL G H1 a e m ci (xs.eraseIdx i) ∧ zMo [a, e] H H1 ∧ zUs 0 0 H H1) := by
  obtain ⟨h1, h2, ⟨mc, h3⟩, h4, h5, h6, h7, h8⟩ := h
  have he : zFr G e := by
    rcases h5 with q | q
    · omega
    · exact q.2
  obtain ⟨C, T, N, hE1, hE2⟩ := id hE
  have hlen : (xs.eraseIdx i).length = xs.length - 1 := List.length_eraseIdx_of_lt hi
  refine zC_in [some (.ref a), some (.int (nI i)), none, none] pn_Al_remove hC.1.1 rfl (Nat.le_of_ble_eq_true rfl) rfl (fun ho2 => ?_)
  refine sAl_remove_0 (h3.fd rfl) (by omega) (Nat.le_of_ble_eq_true rfl) (c_Ob_checkIndex hC.1 (by omega) hi (by omega)) ?_
  rintro r H1 ⟨rfl, rfl⟩ - - -
  have inner : zC G (d - 1) M_Al_fastRemove [.ref a, .ref e, .int (nI i)] H1 (zPv fun H2 => zAL G H2 a e m ci (xs.eraseIdx i) ∧ zMo [a, e] H1 H2 ∧ zUs 0 0 H1 H2) := by
    refine zC_in [some (.ref a), some (.ref e), some (.int (nI i)), none] pn_Al_fastRemove hC.1.1 rfl (Nat.le_of_ble_eq_true rfl) rfl (fun ho3 => ?_)
    refine sAl_fastRemove_0 (h3.fd rfl) h3 h2 (fun H2 h3' u2 => ?_)
    have ne : e ∉ [a] := fun z => h1 (List.mem_singleton.mp z).symm
    have na : a ∉ [e] := fun z => h1 (List.mem_singleton.mp z)
    have h4' := h4.mo u2.mo ne
    have e1 : nI xs.length - 1 = nI (xs.length - 1) := pk_sub (b := 1) (by omega)
    have ia : a ∈ [a, e] := List.mem_cons_self
    have ie : e ∈ [a, e] := List.mem_cons_of_mem _ (List.mem_singleton.mpr rfl)
    have fin : ∀ (H3 : Heap) (f : Nat → Value), zObj G H3 a 5 [.ref e, .int (nI xs.length), .int (mc + 1)] → zArr G H3 e (.object "java/lang/Object") m f → zMo [a, e] H1 H3 → zUs 0 0 H1 H3 → (∀ j, j < m → j ≠ xs.length - 1 → f j = zAf (xs.eraseIdx i) j) → zW G (d - 1) M_Al_fastRemove 34 [some (.ref a), some (.ref e), some (.int (nI i)), some (.int (nI (xs.length - 1)))] [] H3 (zPv fun H2 => zAL G H2 a e m ci (xs.eraseIdx i) ∧ zMo [a, e] H1 H2 ∧ zUs 0 0 H1 H2) := by
      intro H3 f k1 k2 k3 k4 k5
      refine sAl_fastRemove_34 zRf_ref k1 h2 (fun H4 h4O u4 => ?_)
      refine sAl_fastRemove_41 ?_
      refine zw_aastN dAl_fastRemove_42 (k2.mo u4.mo ne) (vp_in_nI (by omega) (by omega)) he (fun H5 h5A u5 => ?_)
      have mo5 : zMo [a, e] H1 H5 := (k3.up u4 (Or.inl ia)).up u5 (Or.inl ie)
      refine sAl_fastRemove_43 ⟨rfl, ⟨h1, h2, ⟨mc + 1, by rw [hlen]; exact h4O.mo u5.mo na⟩, h5A.to (fun j hj => ?_), h5, fun x hx2 => ?_, by omega, h8⟩, mo5, (k4.tr u4.us (c := 0) (s := 0) (c2 := 0) (s2 := 0) (by omega) (by omega)).tr u5.us (c2 := 0) (s2 := 0) (by omega) (by omega)⟩
      · rw [nI_clamp (by omega)]
        unfold updV
        by_cases q : j = xs.length - 1
        · rw [if_pos q]
          exact (zAf_no (by omega)).symm
        · rw [if_neg q]
          exact k5 j hj q
      · have hx3 := List.mem_of_mem_eraseIdx hx2
        exact (h6 x hx3).mo mo5 (fun z => by
          rcases List.mem_cons.mp z with q | q
          · exact (hx x hx3).1 q
          · exact (hx x hx3).2 (List.mem_singleton.mp q))
    refine sAl_fastRemove_10 (h3'.fd rfl) (fun z => ?_) (fun z => ?_)
    · rw [e1] at z ⊢
      have hi2 : i = xs.length - 1 := by
        have := (nI_leI (by omega) (by omega)).mp z
        omega
      refine fin H2 _ h3' h4' (u2.mo.mono (fun q w => Or.inl (by rw [List.mem_singleton.mp w]; exact ia))) u2.us (fun j hj hne => ?_)
      unfold zAf
      rw [List.getElem?_eraseIdx]
      by_cases q : j < i
      · rw [if_pos q]
      · rw [if_neg q, List.getElem?_eq_none (by omega), List.getElem?_eq_none (by omega)]
    · rw [e1] at z ⊢
      have hi2 : i < xs.length - 1 := by
        rcases Nat.lt_or_ge i (xs.length - 1) with q | q
        · exact q
        · exact absurd (nI_le q (by omega)) z
      refine sAl_fastRemove_22 zRf_ref ?_
      rw [pk_sub (by omega), nI_1]
      have c1 : (nI (xs.length - 1 - i)).toNatClampNeg = xs.length - 1 - i := nI_clamp (by omega)
      have c2 : (nI (i + 1)).toNatClampNeg = i + 1 := nI_clamp (by omega)
      have c3 : (nI i).toNatClampNeg = i := nI_clamp (by omega)
      refine zw_copy dAl_fastRemove_31 (by omega) zcp_Al_112 zcp_nat zcp_stat zcp_init h4' h4' he (nI_pos (by omega)) (nI_pos (by omega)) (nI_pos (by omega)) (by rw [c1, c2]; omega) (by rw [c1, c3]; omega) (fun j hj => ?_) (Nat.le_of_ble_eq_true rfl) (fun H3 hB3 u3 => ?_)
      · refine Or.inr ⟨rfl, Or.inr ⟨_, ci, N, C, T, zAf_at (by rw [c1] at hj; rw [c2]; omega), ?_, hE1, hE2⟩⟩
        have hmem : xs.getD ((nI (i + 1)).toNatClampNeg + j) 0 ∈ xs := getD_mem (by rw [c1] at hj; rw [c2]; omega)
        exact (h6 _ hmem).mo u2.mo (fun z => (hx _ hmem).1 (List.mem_singleton.mp z))
      · refine fin H3 _ (h3'.mo u3.mo na) hB3 ((u2.mo.mono (fun q w => Or.inl (by rw [List.mem_singleton.mp w]; exact ia))).up u3 (Or.inl ie)) (u2.us.tr u3.us (c1 := 0) (s1 := 0) (c2 := 0) (s2 := 0) (by omega) (by omega)) (fun j hj hne => ?_)
        rw [c1, c2, c3]
        by_cases q : j < i
        · rw [pk_cpy_out (Or.inl q)]
          unfold zAf
          rw [List.getElem?_eraseIdx, if_pos q]
        · by_cases q2 : j < xs.length - 1
          · rw [pk_cpy_in (by omega) (by omega)]
            unfold zAf
            rw [List.getElem?_eraseIdx, if_neg q, show i + 1 + (j - i) = j + 1 by omega]
          · rw [pk_cpy_out (Or.inr (by omega)), zAf_no (by omega), zAf_no (by omega)]
  refine sAl_remove_8 rfl (zAf_rf xs i) (h3.fd rfl) rfl h4 (vp_in_nI (by omega) (by omega)) (by rw [nI_clamp (by omega)]) (by omega) (Nat.le_of_ble_eq_true rfl) h3.is inner ?_
  intro H2 hP _ _ _
  exact sAl_remove_24 (zAf_rf xs i) ⟨_, rfl, zAf_rf xs i, hP⟩
end JL
