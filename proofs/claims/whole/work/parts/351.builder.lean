/-- a StringBuilder at a, its bytes at v (m of them), with the text t -/
def zSB (G : zG) (H : Heap) (a v m : Nat) (t : List Nat) : Prop := a ≠ v ∧ zFr G a ∧ zFr G v ∧ (∃ ml : Int32, zObj G H a 1 [.ref v, .int 0, .int ml, .int (nI t.length)]) ∧ (∃ g : Nat → Int32, zArr G H v .byte m (fun j => .int (g j)) ∧ sb_Fit g ∧ ∀ j, j < t.length → g j = sb_b (t.getD j 0)) ∧ (∀ c ∈ t, c < 256) ∧ t.length ≤ m ∧ m ≤ 65536
theorem zSB.mo {G : zG} {S : List Nat} {H H1 : Heap} {a v m : Nat} {t : List Nat} (h : zSB G H a v m t) (q : zMo S H H1) (ha : a ∉ S) (hv : v ∉ S) : zSB G H1 a v m t := by
  obtain ⟨h1, h2, h3, ⟨ml, h4⟩, ⟨g, h5, h6⟩, h7⟩ := h
  exact ⟨h1, h2, h3, ⟨ml, h4.mo q ha⟩, ⟨g, h5.mo q hv, h6⟩, h7⟩
theorem zSB.ex {G : zG} {H H1 : Heap} {a v m : Nat} {t : List Nat} (h : zSB G H a v m t) (q : zMo [] H H1) : zSB G H1 a v m t := h.mo q List.not_mem_nil List.not_mem_nil
theorem zSB.lt {G : zG} {H : Heap} {a v m : Nat} {t : List Nat} (h : zSB G H a v m t) : a < H.size ∧ v < H.size := by
  obtain ⟨h1, h2, h3, ⟨ml, h4⟩, ⟨g, h5, h6⟩, h7⟩ := h
  exact ⟨h4.lt, h5.lt⟩
theorem zSB.is {G : zG} {H : Heap} {a v m : Nat} {t : List Nat} (h : zSB G H a v m t) : zIs G H a 1 := by
  obtain ⟨h1, h2, h3, ⟨ml, h4⟩, ⟨g, h5, h6⟩, h7⟩ := h
  exact h4.is
theorem zSB.len {G : zG} {H : Heap} {a v m : Nat} {t : List Nat} (h : zSB G H a v m t) : t.length ≤ m ∧ m ≤ 65536 := h.2.2.2.2.2.2
theorem zSB.b {G : zG} {H : Heap} {a v m : Nat} {t : List Nat} (h : zSB G H a v m t) : ∀ c ∈ t, c < 256 := h.2.2.2.2.2.1
theorem z8 (x : Int32) : x.toInt8.toInt32.toInt8.toInt32 = x.toInt8.toInt32 := by simp
section ZO
variable {G : zG} {d : Nat} {M M2 : zMd} {pc : Nat} {lv : List (Option Value)} {st : List Value} {H : Heap} {Q Q2 : Option Value → Heap → Prop}
/-- a virtual call of an overriding method -/
theorem zw_callO {idx n b ci N m0 : Nat} {x : MethodName} {owner C : String} {T : u_T} {b0 : ByteArray} {r0 : Option FieldType} (As rest : List Value) (hd : decode M.2.1 pc = .ok (.invokevirtual idx, 3)) (hd1 : 1 ≤ d) (hL : zCl M2 n) (kc : classes[ci]? = some (C, T, N)) (k6 : Cond.selects C x M2.1 ∈ lw_tbl) (k7 : Cond.methodLink M.1.cls idx x ∈ lw_tbl) (k8 : Cond.sameMethod x.cls owner x.name x.desc ∈ lw_tbl) (k0 : Cond.code ⟨owner, x.name, x.desc⟩ b0 m0 r0 ∈ lw_tbl) (ki : Cond.instanceMethod ⟨owner, x.name, x.desc⟩ ∈ lw_tbl) (k9 : Cond.instanceMethod M2.1 ∈ lw_tbl) (kn : owner ≠ "java/lang/invoke/MethodHandle" ∧ owner ≠ "java/lang/invoke/VarHandle") (kx : (parseMethodDescriptor x.desc).map (fun d => d.parameters.length) = some n)
    (ho : zIs G H b ci) (hst : st = As.reverse ++ .ref b :: rest) (hn : As.length = n) (hr : rest.length ≤ 4) (hc : zC G (d - 1) M2 (.ref b :: As) H Q2) (kk : ∀ v H1, Q2 v H1 → zOk G H1 → H.size ≤ H1.size → zT H ≤ zT H1 → zW G d M (pc + 3) lv (v.toList ++ rest) H1 Q) : zW G d M pc lv st H Q := by
  intro p e s m args below meth c locs ls cells slots g0 g1 A h1 h2 h3 h4 h5
  obtain ⟨k1, k2, k3, k4, k5⟩ := hL
  refine zw_norm fun b1 b2 => zw_after (mc := zCp G - H.size) (ms := zSp G - zT H) (a := (Value.ref b :: As).toArray) ?_ kk g0 g1 A h1 h2 h3 h4
  have hP : PreV s H C b (va_Pc (.ref b :: As) (fun U => U.heap = H ∧ zEnv G U)) As := ⟨zBlind, ho.recv g0 g1 kc, fun U hU hW => ⟨rfl, hU, State.WarmedH.trans g1 hW⟩⟩
  have hdecl : va_Decl s ⟨owner, x.name, x.desc⟩ := va_Decl.of (args := args) (zWd g0 g1 ki rfl) (zWd g0 g1 k0 rfl)
  exact va_runU (cc := M.2.1) (nL := M.2.2.1) (Ts := []) ⟨A.1, A.2.1, A.2.2.1, A.2.2.2.2.2.1, fun w h => by cases h⟩ (hc h5) ⟨⟨rfl, rfl, (zRoom hd1 k5).1, (zRoom hd1 k5).2, zWs g0 g1 k1, List.mem_singleton.mpr rfl⟩, zWd g0 g1 k1 rfl, zWd g0 g1 k2 rfl, kn, zLen kx, zWd g0 g1 k7 rfl, zWd g0 g1 k8 rfl, hdecl, zWd g0 g1 k6 rfl, zWd g0 g1 k9 rfl⟩ hP rfl hn (h2.1.trans h1) hst (zLvR hr) hd (zRoom2 h5 b1 b2)
end ZO
theorem dSt_init_1_10 : decode prog_20_method_150_code 10 = .ok (.invokevirtual 549, 3) := by decide +kernel
theorem dSt_getBytes_22 : decode prog_20_method_147_code 22 = .ok (.invokestatic 212, 3) := by decide +kernel
section JB
variable {G : zG} {d : Nat} {L : List Nat} {H : Heap} {a v m : Nat} {t u : List Nat}
theorem c_Sb_init (hC : zCs G) (hd : 2 ≤ d) {b0 b1 b2 : Value} {ml : Int32} (ho : zObj G H a 1 [b0, b1, .int ml, .int 0]) (ha : zFr G a) (hR : zRm G H 1 16) :
    zC G d M_Sb_init [.ref a] H (zPv fun H1 => zSB G H1 a H.size 16 [] ∧ zMo [a] H H1 ∧ zUs 1 16 H H1) := by
  refine zC_in [some (.ref a)] pn_Sb_init hC.1 rfl (Nat.le_of_ble_eq_true rfl) rfl (fun ho2 => ?_)
  have inner : zC G (d - 1) M_Ab_init [.ref a, .int 16] H (zPv fun H1 => zSB G H1 a H.size 16 [] ∧ zMo [a] H H1 ∧ zUs 1 16 H H1) := by
    refine zC_in [some (.ref a), some (.int 16)] pn_Ab_init hC.1 rfl (Nat.le_of_ble_eq_true rfl) rfl (fun ho3 => ?_)
    refine sAb_init_0 (by omega) (Nat.le_of_ble_eq_true rfl) ?_
    refine sAb_init_4 hC.2.1 (fun h => absurd h (by decide)) (fun _ => ?_)
    refine sAb_init_10 (N := 16) zRf_ref (by decide) (by decide) (by decide) hR.1 hR.2 (fun H1 h1 n1 => ?_)
    refine sAb_init_14 zRf_ref (ho.ex n1.mo) ha (fun H2 h2 u2 => ?_)
    refine sAb_init_17 h2 ha rfl rfl (fun H3 h3 u3 => ?_)
    have hne : H.size ≠ a := by have := ho.lt; omega
    have m3 : zMo [a] H H3 := ((n1.mo.mono (fun q z => by cases z)).up u2 (Or.inl (List.mem_singleton.mpr rfl))).up u3 (Or.inl (List.mem_singleton.mpr rfl))
    have hz : H.size ∉ [a] := fun z => hne (List.mem_singleton.mp z)
    have hA : zArr G H3 H.size .byte 16 (fun _ => .int 0) := (h1.mo u2.mo hz).mo u3.mo hz
    refine sAb_init_22 ⟨rfl, ⟨fun e => hne e.symm, ha, zFr_new ho3, ⟨_, h3⟩, ⟨fun _ => 0, hA, sb_fit0, fun j hj => absurd hj (Nat.not_lt_zero j)⟩, fun c hc => (by cases hc), by decide, by decide⟩, m3, ?_⟩
    exact (n1.us.tr u2.us (c := 1) (s := 16) (c2 := 0) (s2 := 0) (by omega) (by omega)).tr u3.us (c2 := 0) (s2 := 0) (by omega) (by omega)
  refine sSb_init_0 (by omega) (Nat.le_of_ble_eq_true rfl) inner ?_
  intro H1 hP _ _ _
  exact sSb_init_6 ⟨rfl, hP⟩
theorem c_Sb_length (hC : zCs G) (hd : 1 ≤ d) (h : zSB G H a v m t) : zC G d M_Sb_length [.ref a] H (zRd H (nI t.length)) := by
  obtain ⟨h1, h2, h3, ⟨ml, h4⟩, ⟨g, h5, h6⟩, h7⟩ := h
  refine zC_in [some (.ref a)] pn_Sb_length hC.1 rfl (Nat.le_of_ble_eq_true rfl) rfl (fun ho2 => ?_)
  have inner : zC G (d - 1) M_Ab_length [.ref a] H (zRd H (nI t.length)) := by
    refine zC_in [some (.ref a)] pn_Ab_length hC.1 rfl (Nat.le_of_ble_eq_true rfl) rfl (fun ho3 => ?_)
    exact sAb_length_0 (h4.fd rfl) ⟨_, rfl, rfl, rfl⟩
  refine sSb_length_0 hd (Nat.le_of_ble_eq_true rfl) h4.is inner ?_
  rintro r H1 ⟨rfl, rfl⟩ - - -
  exact sSb_length_4 ⟨_, rfl, rfl, rfl⟩
theorem c_Ab_isLatin1 (hC : zCs G) (h : zFd G H a 1 1 (.int 0)) : zC G d M_Ab_isLatin1 [.ref a] H (zRd H 1) := by
  refine zC_in [some (.ref a)] pn_Ab_isLatin1 hC.1 rfl (Nat.le_of_ble_eq_true rfl) rfl (fun ho => ?_)
  exact sAb_isLatin1_0 hC.2.1 (fun h => absurd h (by decide)) (fun _ => sAb_isLatin1_6 h (fun h => absurd rfl h) (fun _ => sAb_isLatin1_13 rfl ⟨_, rfl, rfl, rfl⟩))
theorem c_Sb_charAt (hC : zCs G) (hd : 3 ≤ d) (h : zSB G H a v m t) {i : Nat} (hi : i < t.length) : zC G d M_Sb_charAt [.ref a, .int (nI i)] H (zRd H (nI (t.getD i 0))) := by
  obtain ⟨h1, h2, h3, ⟨ml, h4⟩, ⟨g, h5, h6, h6'⟩, h7, h8, h9⟩ := h
  have hb1 := zTx_get h7 i
  refine zC_in [some (.ref a), some (.int (nI i))] pn_Sb_charAt hC.1 rfl (Nat.le_of_ble_eq_true rfl) rfl (fun ho2 => ?_)
  have inner : zC G (d - 1) M_Ab_charAt [.ref a, .int (nI i)] H (zRd H (nI (t.getD i 0))) := by
    refine zC_in [some (.ref a), some (.int (nI i)), none, none, none] pn_Ab_charAt hC.1 rfl (Nat.le_of_ble_eq_true rfl) rfl (fun ho3 => ?_)
    refine sAb_charAt_0 (h4.fd rfl) (h4.fd rfl) (h4.fd rfl) h5 (by omega) (Nat.le_of_ble_eq_true rfl) (c_Ma_min hC _ _) ?_
    rintro r H1 ⟨rfl, rfl⟩ - - -
    rw [sb_shr0, if_neg (nI_nlt h8 (by omega))]
    refine sAb_charAt_21 (by omega) (Nat.le_of_ble_eq_true rfl) (c_St_checkIndex hC (by omega) hi (by omega)) ?_
    rintro H1 rfl - - -
    refine sAb_charAt_29 (fun z => absurd rfl z) (fun _ => ?_)
    obtain ⟨b1, b2, -⟩ := sb_byte _ hb1
    have e : (((g (nI i).toNatClampNeg) &&& (255 : Int32)).toUInt32 % 65536).toInt32 = nI (t.getD i 0) := by rw [nI_clamp (by omega), h6' i hi, b1, b2]
    refine sAb_charAt_33 h5 (vp_in_nI (by omega) (by omega)) ?_ ⟨_, rfl, e, rfl⟩
    rw [e]
    exact (pk_charN (by omega)).1
  refine sSb_charAt_0 (by omega) (Nat.le_of_ble_eq_true rfl) h4.is inner ?_
  rintro r H1 ⟨rfl, rfl⟩ - - -
  exact sSb_charAt_5 (pk_charN (by omega)).1 ⟨_, rfl, rfl, rfl⟩
theorem c_AS_newLength (hC : zCs G) (hd : 1 ≤ d) {o g p : Nat} (hg : 1 ≤ o + max g p) (h1 : o ≤ 65536) (h2 : g ≤ 65536) (h3 : p ≤ 65538) : zC G d M_AS_newLength [.int (nI o), .int (nI g), .int (nI p)] H (zRd H (nI (o + max g p))) := by
  refine zC_in [some (.int (nI o)), some (.int (nI g)), some (.int (nI p)), none] pn_AS_newLength hC.1 rfl (Nat.le_of_ble_eq_true rfl) rfl (fun ho => ?_)
  refine sAS_newLength_0 hd (Nat.le_of_ble_eq_true rfl) (c_Ma_max hC _ _) ?_
  rintro r H1 ⟨rfl, rfl⟩ - - -
  have e : (if nI g < nI p then nI p else nI g) = nI (max g p) := by
    by_cases q : g < p
    · rw [if_pos (nI_lt q (by omega)), Nat.max_eq_right (by omega)]
    · rw [if_neg (nI_nlt (by omega) (by omega)), Nat.max_eq_left (by omega)]
  rw [e]
  have hm : max g p ≤ 65538 := by omega
  refine sAS_newLength_6 (fun z => ?_) (fun _ => ?_)
  · rw [nI_add] at z
    exact absurd z (nI_nle (by omega) (by omega))
  · refine sAS_newLength_13 (fun z => ?_) (fun _ => ?_)
    · rw [nI_add] at z
      exact absurd z (show ¬ nI 2147483639 < nI (o + max g p) from nI_nlt (by omega) (by decide))
    · exact sAS_newLength_19 ⟨_, rfl, nI_add _ _, rfl⟩
/-- room for k bytes more -/
theorem c_Ab_ensure (hC : zCs G) (hd : 3 ≤ d) (h : zSB G H a v m t) {k : Nat} (hk : k ≤ 32768) (hR : zRm G H 1 (2 * k)) :
    zC G d M_Ab_ensureCapacityInternal [.ref a, .int (nI k)] H (zPv fun H1 => ∃ v' m', zSB G H1 a v' m' t ∧ k ≤ m' ∧ m ≤ m' ∧ (v' = v ∨ H.size ≤ v') ∧ (m' = m ∨ (m' ≤ 2 * k ∧ 2 * m + 2 ≤ m')) ∧ zMo [a] H H1 ∧ zUs (min 1 (m' - m)) (2 * (m' - m)) H H1) := by
  have h0 := h
  obtain ⟨h1, h2, h3, ⟨ml, h4⟩, ⟨g, h5, h6, h6'⟩, h7, h8, h9⟩ := h
  refine zC_in [some (.ref a), some (.int (nI k)), none] pn_Ab_ensureCapacityInternal hC.1 rfl (Nat.le_of_ble_eq_true rfl) rfl (fun ho => ?_)
  refine sAb_ensureCapacityInternal_0 (h4.fd rfl) h5 (h4.fd rfl) (fun z => ?_) (fun z => ?_)
  · rw [sb_shr0] at z
    have hkm : k ≤ m := by
      rcases Nat.lt_or_ge m k with q | q
      · rw [pk_sub (by omega)] at z
        exact absurd z (nI_nle (by omega) (by omega))
      · exact q
    exact sAb_ensureCapacityInternal_38 ⟨rfl, v, m, h0, hkm, Nat.le_refl _, Or.inl rfl, Or.inl rfl, zMo.rf, zUs.rf⟩
  · rw [sb_shr0] at z
    have hkm : m < k := by
      rcases Nat.lt_or_ge m k with q | q
      · exact q
      · rcases Nat.lt_or_ge k m with q2 | q2
        · exact absurd (Int32.le_of_lt (pk_sneg (by omega) q2)) z
        · have : k = m := by omega
          subst this
          exact absurd (by rw [Int32.sub_self]; decide) z
    have inner : zC G (d - 1) M_Ab_newCapacity [.ref a, .int (nI k)] H (zRd H (nI (max k (2 * m + 2)))) := by
      refine zC_in [some (.ref a), some (.int (nI k)), none, none, none, none] pn_Ab_newCapacity hC.1 rfl (Nat.le_of_ble_eq_true rfl) rfl (fun ho => ?_)
      refine sAb_newCapacity_0 (h4.fd rfl) h5 (h4.fd rfl) (h4.fd rfl) (by omega) (Nat.le_of_ble_eq_true rfl) (P := fun r H1 => r = nI (max k (2 * m + 2)) ∧ H1 = H) ?_ ?_
      · rw [sb_shl0, sb_shl0, pk_sub (by omega), show nI m + 2 = nI (m + 2) from nI_add m 2]
        have := c_AS_newLength (H := H) hC (d := d - 1 - 1) (by omega) (o := m) (g := k - m) (p := m + 2) (by omega) (by omega) (by omega) (by omega)
        rw [show m + max (k - m) (m + 2) = max k (2 * m + 2) by omega] at this
        exact this
      · rintro r H1 ⟨rfl, rfl⟩ - - -
        refine sAb_newCapacity_32 (fun _ => ?_) (fun e => ?_)
        · exact sAb_newCapacity_51 (h4.fd rfl) ⟨_, rfl, sb_shr0 _, rfl⟩
        · exact absurd ((nI_eq (b := 2147483647) (by omega) (by decide)).mp e) (by omega)
    refine sAb_ensureCapacityInternal_17 zRf_ref (h4.fd rfl) (by omega) (Nat.le_of_ble_eq_true rfl) h4.is inner ?_
    rintro r H1 ⟨rfl, rfl⟩ - - -
    have hm2 : max k (2 * m + 2) ≤ 2 * k := by omega
    refine sAb_ensureCapacityInternal_27 zRf_ref (h4.fd rfl) (by omega) (Nat.le_of_ble_eq_true rfl) (by rw [sb_shl0]; exact c_Ar_copyOf hC (by omega) h5 h6 (show m < max k (2 * m + 2) by omega) (by omega) (hR.le 1 _ (by omega) hm2)) ?_
    rintro r H2 - ⟨rfl, hB, m2, u2⟩ ho2 - -
    refine sAb_ensureCapacityInternal_35 zRf_ref (h4.ex m2) h2 (fun H3 h4' u3 => ?_)
    have hz : H1.size ∉ [a] := fun z => by have := List.mem_singleton.mp z; have := h4.lt; omega
    refine sAb_ensureCapacityInternal_38 ⟨rfl, H1.size, max k (2 * m + 2), ⟨by have := h4.lt; omega, h2, zFr_new ho, ⟨ml, h4'⟩, ⟨_, hB.mo u3.mo hz, sb_fitC h6 sb_fit0, fun j hj => ?_⟩, h7, by omega, by omega⟩, by omega, by omega, Or.inr (Nat.le_refl _), Or.inr ⟨hm2, by omega⟩, (m2.mono (fun q z => by cases z)).up u3 (Or.inl (List.mem_singleton.mpr rfl)), u2.tr u3.us (c2 := 0) (s2 := 0) (by omega) (by omega)⟩
    rw [sb_cpy0 (by omega)]
    exact h6' j hj
theorem getD_app_lo {t u : List Nat} {j : Nat} (h : j < t.length) : (t ++ u).getD j 0 = t.getD j 0 := by
  rw [List.getD_eq_getElem?_getD, List.getD_eq_getElem?_getD, List.getElem?_append_left h]
theorem getD_app_hi {t u : List Nat} {j : Nat} (h : t.length ≤ j) : (t ++ u).getD j 0 = u.getD (j - t.length) 0 := by
  rw [List.getD_eq_getElem?_getD, List.getD_eq_getElem?_getD, List.getElem?_append_right h]
/-- append(char) -/
theorem c_Sb_append0 (hC : zCs G) (hd : 5 ≤ d) (h : zSB G H a v m t) {c : Nat} (hc : c < 256) (hk : t.length + 1 ≤ 32768) (hR : zRm G H 1 (2 * (t.length + 1))) :
    zC G d M_Sb_append_0 [.ref a, .int (nI c)] H (zPr fun r H1 => r = .ref a ∧ ∃ v' m', zSB G H1 a v' m' (t ++ [c]) ∧ m ≤ m' ∧ (v' = v ∨ H.size ≤ v') ∧ (m' = m ∨ (m' ≤ 2 * (t.length + 1) ∧ 2 * m + 2 ≤ m')) ∧ zMo [a, v] H H1 ∧ zUs (min 1 (m' - m)) (2 * (m' - m)) H H1) := by
  have hl := h.lt
  refine zC_in [some (.ref a), some (.int (nI c))] pn_Sb_append_0 hC.1 rfl (Nat.le_of_ble_eq_true rfl) rfl (fun ho2 => ?_)
  have inner : zC G (d - 1) M_Ab_append_0 [.ref a, .int (nI c)] H (zPr fun r H1 => r = .ref a ∧ ∃ v' m', zSB G H1 a v' m' (t ++ [c]) ∧ m ≤ m' ∧ (v' = v ∨ H.size ≤ v') ∧ (m' = m ∨ (m' ≤ 2 * (t.length + 1) ∧ 2 * m + 2 ≤ m')) ∧ zMo [a, v] H H1 ∧ zUs (min 1 (m' - m)) (2 * (m' - m)) H H1) := by
    obtain ⟨g1, g2, g3, ⟨ml, g4⟩, -⟩ := id h
    refine zC_in [some (.ref a), some (.int (nI c))] pn_Ab_append_0 hC.1 rfl (Nat.le_of_ble_eq_true rfl) rfl (fun ho3 => ?_)
    refine sAb_append_0_0 (g4.fd rfl) (by omega) (Nat.le_of_ble_eq_true rfl) g4.is (by rw [nI_1]; exact c_Ab_ensure hC (by omega) h hk hR) ?_
    rintro H1 ⟨v', m', hB, k1, k2, k3, k4, m1, u1⟩ ho4 - -
    obtain ⟨h1, h2, h3, ⟨ml, h4⟩, ⟨g, h5, h6, h6'⟩, h7, h8, h9⟩ := hB
    refine sAb_append_0_10 (by omega) (Nat.le_of_ble_eq_true rfl) h4.is (c_Ab_isLatin1 hC (h4.fd rfl)) ?_
    rintro r H2 ⟨rfl, rfl⟩ - - -
    refine sAb_append_0_14 (fun z => absurd z (by decide)) (fun _ => ?_)
    refine sAb_append_0_17 (by omega) (Nat.le_of_ble_eq_true rfl) (c_L1_canEncode_0 hC hc) ?_
    rintro r H3 ⟨rfl, rfl⟩ - - -
    refine sAb_append_0_21 (fun z => absurd z (by decide)) (fun _ => ?_)
    refine sAb_append_0_24 zRf_ref (h4.fd rfl) (h4.fd rfl) h4 h2 (fun H4 h4' u4 => ?_)
    have hz : v' ∉ [a] := fun z => h1 (List.mem_singleton.mp z).symm
    refine sAb_append_0_39 (h5.mo u4.mo hz) (vp_in_nI (by omega) (by omega)) h3 (fun H5 h5' u5 => ?_)
    have hz2 : a ∉ [v'] := fun z => h1 (List.mem_singleton.mp z)
    rw [nI_1] at h4'
    have e1 : (t ++ [c]).length = t.length + 1 := by simp
    refine sAb_append_0_42 zRf_ref ⟨_, rfl, zRf_ref, rfl, v', m', ⟨h1, h2, h3, ⟨ml, by rw [e1]; exact h4'.mo u5.mo hz2⟩, ⟨upd g t.length (sb_b c), h5'.to (fun j hj => ?_), sb_fitU h6 (sb_fitB c), fun j hj => ?_⟩, fun x hx => ?_, by omega, h9⟩, k2, k3, k4, ?_, (u1.tr u4.us (c := min 1 (m' - m)) (s := 2 * (m' - m)) (c2 := 0) (s2 := 0) (by omega) (by omega)).tr u5.us (c2 := 0) (s2 := 0) (by omega) (by omega)⟩
    · rw [nI_clamp (by omega), z8]
      unfold updV upd
      by_cases q : j = t.length
      · rw [if_pos q, if_pos q]; rfl
      · rw [if_neg q, if_neg q]
    · by_cases q : j = t.length
      · rw [q, pk_us, getD_app_hi (Nat.le_refl _), Nat.sub_self]; rfl
      · rw [pk_un q, getD_app_lo (by omega)]
        exact h6' j (by omega)
    · rcases List.mem_append.mp hx with q | q
      · exact h7 x q
      · rw [List.mem_singleton.mp q]; exact hc
    · refine ((m1.mono (S := [a, v]) (fun q z => Or.inl (by rw [List.mem_singleton.mp z]; exact List.mem_cons_self))).up u4 (Or.inl List.mem_cons_self)).up u5 ?_
      rcases k3 with rfl | k3
      · exact Or.inl (List.mem_cons_of_mem _ (List.mem_singleton.mpr rfl))
      · exact Or.inr k3
  refine sSb_append_0_0 (by omega) (Nat.le_of_ble_eq_true rfl) h.is inner ?_
  rintro r H1 - ⟨rfl, hP⟩ - - -
  exact sSb_append_0_5 rfl zRf_ref ⟨_, rfl, zRf_ref, rfl, hP⟩
/-- setLength(n), not beyond the end -/
theorem c_Sb_setLength (hC : zCs G) (hd : 5 ≤ d) (h : zSB G H a v m t) {n : Nat} (hn : n ≤ t.length) :
    zC G d M_Sb_setLength [.ref a, .int (nI n)] H (zPv fun H1 => zSB G H1 a v m (t.take n) ∧ zMo [a] H H1 ∧ zUs 0 0 H H1) := by
  refine zC_in [some (.ref a), some (.int (nI n))] pn_Sb_setLength hC.1 rfl (Nat.le_of_ble_eq_true rfl) rfl (fun ho2 => ?_)
  have inner : zC G (d - 1) M_Ab_setLength [.ref a, .int (nI n)] H (zPv fun H1 => zSB G H1 a v m (t.take n) ∧ zMo [a] H H1 ∧ zUs 0 0 H H1) := by
    obtain ⟨h1, h2, h3, ⟨ml, h4⟩, ⟨g, h5, h6, h6'⟩, h7, h8, h9⟩ := id h
    refine zC_in [some (.ref a), some (.int (nI n))] pn_Ab_setLength hC.1 rfl (Nat.le_of_ble_eq_true rfl) rfl (fun ho3 => ?_)
    refine sAb_setLength_0 (fun _ => ?_) (fun z => absurd (nI_pos' (by omega)) z)
    have ens : zC G (d - 1 - 1) M_Ab_ensureCapacityInternal [.ref a, .int (nI n)] H (zPv fun H1 => H1 = H) := by
      refine zC_in [some (.ref a), some (.int (nI n)), none] pn_Ab_ensureCapacityInternal hC.1 rfl (Nat.le_of_ble_eq_true rfl) rfl (fun ho => ?_)
      refine sAb_ensureCapacityInternal_0 (h4.fd rfl) h5 (h4.fd rfl) (fun z => sAb_ensureCapacityInternal_38 ⟨rfl, rfl⟩) (fun z => absurd ?_ z)
      rw [sb_shr0]
      rcases Nat.lt_or_ge n m with q2 | q2
      · exact Int32.le_of_lt (pk_sneg (by omega) q2)
      · have : n = m := by omega
        subst this
        rw [Int32.sub_self]; decide
    refine sAb_setLength_13 (by omega) (Nat.le_of_ble_eq_true rfl) h4.is ens ?_
    rintro H1 rfl - - -
    refine sAb_setLength_18 (h4.fd rfl) (fun _ => ?_) (fun z => absurd (nI_le hn (by omega)) z)
    have e1 : (t.take n).length = n := by rw [List.length_take]; omega
    have e2 : ∀ j, j < n → g j = sb_b ((t.take n).getD j 0) := fun j hj => by
      have := take_drop_getD t 0 n j hj
      rw [List.drop_zero, Nat.zero_add] at this
      rw [this]; exact h6' j (by omega)
    have fin : ∀ (H2 : Heap) (b : Value), zObj G H2 a 1 [.ref v, .int 0, b, .int (nI t.length)] → (∃ ml, b = .int ml) → zMo [a] H1 H2 → zUs 0 0 H1 H2 → zArr G H2 v .byte m (fun j => .int (g j)) → zW G (d - 1) M_Ab_setLength 76 [some (.ref a), some (.int (nI n))] [] H2 (zPv fun H3 => zSB G H3 a v m (t.take n) ∧ zMo [a] H1 H3 ∧ zUs 0 0 H1 H3) := by
      rintro H2 b hb ⟨ml2, rfl⟩ m2 u2 hA
      refine sAb_setLength_76 hb h2 (fun H3 h3' u3 => ?_)
      refine sAb_setLength_81 ⟨rfl, ⟨h1, h2, h3, ⟨ml2, by rw [e1]; exact h3'⟩, ⟨g, hA.mo u3.mo (fun z => h1 (List.mem_singleton.mp z).symm), h6, fun j hj => e2 j (by omega)⟩, fun c hc => h7 c (List.mem_of_mem_take hc), by omega, h9⟩, m2.up u3 (Or.inl (List.mem_singleton.mpr rfl)), u2.tr u3.us (c2 := 0) (s2 := 0) (by omega) (by omega)⟩
    refine sAb_setLength_63 (h4.fd rfl) (fun _ => ?_) (fun _ => ?_)
    · exact fin H1 _ h4 ⟨_, rfl⟩ zMo.rf zUs.rf h5
    · refine sAb_setLength_71 h4 h2 rfl rfl (fun H2 h2' u2 => ?_)
      exact fin H2 _ h2' ⟨_, rfl⟩ u2.mo u2.us (h5.mo u2.mo (fun z => h1 (List.mem_singleton.mp z).symm))
  refine sSb_setLength_0 (by omega) (Nat.le_of_ble_eq_true rfl) h.is inner ?_
  intro H1 hP _ _ _
  exact sSb_setLength_5 ⟨rfl, hP⟩
theorem c_Ab_getValue (hC : zCs G) (h : zFd G H a 1 0 (.ref v)) : zC G d M_Ab_getValue [.ref a] H (zPr fun r H1 => r = .ref v ∧ H1 = H) := by
  refine zC_in [some (.ref a)] pn_Ab_getValue hC.1 rfl (Nat.le_of_ble_eq_true rfl) rfl (fun ho => ?_)
  exact sAb_getValue_0 zRf_ref h ⟨_, rfl, zRf_ref, rfl, rfl⟩
/-- toString() -/
theorem c_Sb_toString (hC : zCs G) (hd : 6 ≤ d) (h : zSB G H a v m t) (hL : zLi G H L) (hR : zRm G H 2 (t.length + 4)) :
    zC G d M_Sb_toString [.ref a] H (zPr fun r H1 => ∃ b, r = .ref b ∧ zTx G L H1 b t ∧ zMo [] H H1 ∧ zUs 2 (t.length + 4) H H1) := by
  refine zC_in [some (.ref a)] pn_Sb_toString hC.1 rfl (Nat.le_of_ble_eq_true rfl) rfl (fun ho => ?_)
  refine sSb_toString_0 (by have := hR.1; omega) (by have := hR.2; omega) (fun H1 h1 n1 => ?_)
  have hs := h.ex n1.mo
  have hfr := zFr_new ho
  have e1 : H1.size = H.size + 1 := n1.1
  have hR1 : zRm G H1 1 t.length := hR.us n1.us 1 t.length (by omega) (by omega)
  have inner2 : zC G (d - 1 - 1) M_St_init_1 [.ref H.size, .ref a, .null] H1 (zPv fun H2 => zTx G L H2 H.size t ∧ zMo [H.size] H1 H2 ∧ zUs 1 t.length H1 H2) := by
    obtain ⟨g1, g2, g3, ⟨ml, g4⟩, ⟨g, g5, g6, g6'⟩, g7, g8, g9⟩ := id hs
    refine zC_in [some (.ref H.size), some (.ref a), some .null, none, none] pn_St_init_1 hC.1 rfl (Nat.le_of_ble_eq_true rfl) rfl (fun ho1 => ?_)
    refine sSt_init_1_0 (by omega) (Nat.le_of_ble_eq_true rfl) ?_
    refine sSt_init_1_4 (by omega) (Nat.le_of_ble_eq_true rfl) g4.is (c_Ab_getValue hC (g4.fd rfl)) ?_
    rintro r H2 - ⟨rfl, rfl⟩ - - -
    refine sSt_init_1_8 zRf_ref zRf_ref ?_
    refine zw_callO (x := ⟨"java/lang/AbstractStringBuilder", "length", "()I"⟩) (owner := "java/lang/AbstractStringBuilder") (idx := 549) (M2 := M_Sb_length) (n := 0) [] [] dSt_init_1_10 (by omega) zc_Sb_length (ci := 1) rfl (zt6 158 rfl) (zt2 200 rfl) (zt6 151 rfl) (zt2 34 rfl) (zt2 33 rfl) (zt2 29 rfl) ⟨by decide, by decide⟩ (by decide +kernel) g4.is rfl rfl (Nat.le_of_ble_eq_true rfl) (c_Sb_length hC (by omega) hs) ?_
    rintro vv H3 ⟨r, rfl, rfl, rfl⟩ - - -
    refine sSt_init_1_13 (by omega) (Nat.le_of_ble_eq_true rfl) g4.is (c_Ab_isLatin1 hC (g4.fd rfl)) ?_
    rintro r H4 ⟨rfl, rfl⟩ - - -
    refine sSt_init_1_19 (fun z => absurd z (by decide)) (fun _ => ?_)
    refine sSt_init_1_22 h1 hfr rfl rfl (fun H5 h5 u5 => ?_)
    have hv : v ∉ [H.size] := fun z => by have := List.mem_singleton.mp z; have := h.lt; omega
    refine sSt_init_1_27 zRf_ref zRf_ref (by omega) (Nat.le_of_ble_eq_true rfl) (c_Ar_copyOfRange hC (by omega) (i := 0) (k := t.length) (g5.mo u5.mo hv) g6 (Nat.zero_le _) g8 g9 (Or.inl g3) (by rw [Nat.sub_zero]; exact hR1.us (c1 := 0) (s1 := 0) u5.us 1 t.length (by omega) (by omega))) ?_
    rintro r H6 - ⟨rfl, h6, m6, u6⟩ ho6 - -
    rw [Nat.sub_zero] at h6 u6
    refine sSt_init_1_35 zRf_ref (h5.ex m6) hfr (fun H7 h7 u7 => ?_)
    have e5 : H5.size = H4.size := u5.1
    have hz : H5.size ∉ [H.size] := fun z => by have := List.mem_singleton.mp z; omega
    refine sSt_init_1_38 ⟨rfl, ⟨H5.size, hL.new (Nat.le_refl _), hL.new (by omega), h7.is, h7.fd rfl, h7.fd rfl, ?_, g7, by omega⟩, ((u5.mo).ex m6).up u7 (Or.inl (List.mem_singleton.mpr rfl)), (u5.us.tr u6 (c1 := 0) (s1 := 0) (c := 1) (s := t.length) (by omega) (by omega)).tr u7.us (c2 := 0) (s2 := 0) (by omega) (by omega)⟩
    refine (h6.mo u7.mo hz).to (fun j hj => ?_)
    rw [Nat.zero_add, g6' j hj]
  have inner : zC G (d - 1) M_St_init_0 [.ref H.size, .ref a] H1 (zPv fun H2 => zTx G L H2 H.size t ∧ zMo [H.size] H1 H2 ∧ zUs 1 t.length H1 H2) := by
    refine zC_in [some (.ref H.size), some (.ref a)] pn_St_init_0 hC.1 rfl (Nat.le_of_ble_eq_true rfl) rfl (fun ho1 => ?_)
    refine sSt_init_0_0 zRf_ref (by omega) (Nat.le_of_ble_eq_true rfl) inner2 ?_
    intro H2 hP _ _ _
    exact sSt_init_0_6 ⟨rfl, hP⟩
  refine sSb_toString_3 zRf_ref (by omega) (Nat.le_of_ble_eq_true rfl) inner ?_
  rintro H2 ⟨k1, k2, k3⟩ - - -
  refine sSb_toString_8 zRf_ref ⟨_, rfl, zRf_ref, _, rfl, k1, n1.mo.tr k2 (fun q z => by cases z) (fun q z => Or.inr (by rw [List.mem_singleton.mp z]; exact Nat.le_refl _)), n1.us.tr k3 (by omega) (by omega)⟩
/-- append(String) -/
theorem c_Sb_append1 (hC : zCs G) (hd : 5 ≤ d) (h : zSB G H a v m t) {s : Nat} (hs : zTx G [a, v] H s u) (hk : t.length + u.length ≤ 32768) (hR : zRm G H 1 (2 * (t.length + u.length))) :
    zC G d M_Sb_append_1 [.ref a, .ref s] H (zPr fun r H1 => r = .ref a ∧ ∃ v' m', zSB G H1 a v' m' (t ++ u) ∧ m ≤ m' ∧ (v' = v ∨ H.size ≤ v') ∧ (m' = m ∨ (m' ≤ 2 * (t.length + u.length) ∧ 2 * m + 2 ≤ m')) ∧ zMo [a, v] H H1 ∧ zUs (min 1 (m' - m)) (2 * (m' - m)) H H1) := by
  refine zC_in [some (.ref a), some (.ref s)] pn_Sb_append_1 hC.1 rfl (Nat.le_of_ble_eq_true rfl) rfl (fun ho2 => ?_)
  have inner : zC G (d - 1) M_Ab_append_1 [.ref a, .ref s] H (zPr fun r H1 => r = .ref a ∧ ∃ v' m', zSB G H1 a v' m' (t ++ u) ∧ m ≤ m' ∧ (v' = v ∨ H.size ≤ v') ∧ (m' = m ∨ (m' ≤ 2 * (t.length + u.length) ∧ 2 * m + 2 ≤ m')) ∧ zMo [a, v] H H1 ∧ zUs (min 1 (m' - m)) (2 * (m' - m)) H H1) := by
    obtain ⟨g1, g2, g3, ⟨ml, g4⟩, -⟩ := id h
    refine zC_in [some (.ref a), some (.ref s), none] pn_Ab_append_1 hC.1 rfl (Nat.le_of_ble_eq_true rfl) rfl (fun ho3 => ?_)
    refine sAb_append_1_0 zRf_ref (fun _ _ => ?_) (fun z => by cases z)
    refine sAb_append_1_9 (by omega) (Nat.le_of_ble_eq_true rfl) hs.is (c_St_length hC (by omega) hs) ?_
    rintro r H1 ⟨rfl, rfl⟩ - - -
    refine sAb_append_1_13 (g4.fd rfl) (by omega) (Nat.le_of_ble_eq_true rfl) g4.is (by rw [nI_add]; exact c_Ab_ensure hC (by omega) h hk hR) ?_
    rintro H2 ⟨v', m', hB, k1, k2, k3, k4, m1, u1⟩ ho4 - -
    have hB0 := hB
    obtain ⟨h1, h2, h3, ⟨ml, h4⟩, ⟨g, h5, h6, h6'⟩, h7, h8, h9⟩ := hB
    have hs2 : zTx G [a, v'] H2 s u := (hs.li (L2 := [a, v']) (fun q z => by
      rcases List.mem_cons.mp z with rfl | z
      · exact Or.inl List.mem_cons_self
      · rw [List.mem_singleton.mp z]
        rcases k3 with rfl | k3
        · exact Or.inl (List.mem_cons_of_mem _ (List.mem_singleton.mpr rfl))
        · exact Or.inr k3)).mo m1 (fun q z => Or.inl (by rw [List.mem_singleton.mp z]; exact List.mem_cons_self))
    obtain ⟨w, f1, f2, f3, f4, f5, f6, f7, f8⟩ := hs2
    have hput : zC G (d - 1 - 1) M_Ab_putStringAt [.ref a, .int (nI t.length), .ref s] H2 (zPv fun H3 => zArr G H3 v' .byte m' (fun j => .int (va_cpy (fun i => sb_b (u.getD i 0)) g 0 t.length u.length j)) ∧ zUp v' H2 H3) := by
      refine zC_in [some (.ref a), some (.int (nI t.length)), some (.ref s)] pn_Ab_putStringAt hC.1 rfl (Nat.le_of_ble_eq_true rfl) rfl (fun ho5 => ?_)
      have hinf : zC G (d - 1 - 1 - 1) M_Ab_inflateIfNeededFor [.ref a, .ref s] H2 (zPv fun H3 => H3 = H2) := by
        refine zC_in [some (.ref a), some (.ref s)] pn_Ab_inflateIfNeededFor hC.1 rfl (Nat.le_of_ble_eq_true rfl) rfl (fun ho5 => ?_)
        refine sAb_inflateIfNeededFor_0 hC.2.1 (fun h => absurd h (by decide)) (fun _ => ?_)
        refine sAb_inflateIfNeededFor_6 (h4.fd rfl) (by omega) (Nat.le_of_ble_eq_true rfl) f3 (c_St_coder hC f5) ?_
        rintro r H3 ⟨rfl, rfl⟩ - - -
        exact sAb_inflateIfNeededFor_14 (fun _ => sAb_inflateIfNeededFor_21 ⟨rfl, rfl⟩) (fun z => absurd rfl z)
      refine sAb_putStringAt_0 zRf_ref (by omega) (Nat.le_of_ble_eq_true rfl) h4.is hinf ?_
      rintro H3 rfl - - -
      have hgb : zC G (d - 1 - 1 - 1) M_St_getBytes [.ref s, .ref v', .int (nI t.length), .int 0] H3 (zPv fun H4 => zArr G H4 v' .byte m' (fun j => .int (va_cpy (fun i => sb_b (u.getD i 0)) g 0 t.length u.length j)) ∧ zUp v' H3 H4) := by
        refine zC_in [some (.ref s), some (.ref v'), some (.int (nI t.length)), some (.int 0)] pn_St_getBytes hC.1 rfl (Nat.le_of_ble_eq_true rfl) rfl (fun ho5 => ?_)
        refine sSt_getBytes_0 (by omega) (Nat.le_of_ble_eq_true rfl) f3 (c_St_coder hC f5) ?_
        rintro r H4 ⟨rfl, rfl⟩ - - -
        refine sSt_getBytes_4 (fun z => absurd rfl z) (fun _ => ?_)
        refine sSt_getBytes_8 zRf_ref zRf_ref f4 f4 f6 ?_
        rw [sb_shl0]
        have ec : (nI u.length).toNatClampNeg = u.length := nI_clamp (by omega)
        have et : (nI t.length).toNatClampNeg = t.length := nI_clamp (by omega)
        refine zw_copy dSt_getBytes_22 (by omega) zcp_St_212 zcp_nat zcp_stat zcp_init f6 h5 h3 (by decide) (nI_pos (by omega)) (nI_pos (by omega)) (by rw [ec, sb_cl0]; omega) (by rw [ec, et]; omega) (fun i hi => zCpB (sb_fitB _)) (Nat.le_of_ble_eq_true rfl) (fun H5 hB5 hu => ?_)
        refine sSt_getBytes_25 ⟨rfl, hB5.to (fun j hj => ?_), hu⟩
        rw [ec, et, sb_cl0]
        exact zCpyI _ g 0 t.length u.length j
      refine sAb_putStringAt_5 zRf_ref (h4.fd rfl) (h4.fd rfl) (by omega) (Nat.le_of_ble_eq_true rfl) f3 hgb ?_
      intro H4 hP _ _ _
      exact sAb_putStringAt_18 ⟨rfl, hP⟩
    refine sAb_append_1_24 zRf_ref (h4.fd rfl) (by omega) (Nat.le_of_ble_eq_true rfl) h4.is hput ?_
    rintro H3 ⟨hA3, up3⟩ - - -
    have hz2 : a ∉ [v'] := fun z => h1 (List.mem_singleton.mp z)
    have h4' := h4.mo up3.mo hz2
    refine sAb_append_1_33 (h4'.fd rfl) h4' h2 (fun H4 h4'' up4 => ?_)
    rw [nI_add] at h4''
    have e1 : (t ++ u).length = t.length + u.length := List.length_append
    refine sAb_append_1_43 zRf_ref ⟨_, rfl, zRf_ref, rfl, v', m', ⟨h1, h2, h3, ⟨ml, by rw [e1]; exact h4''⟩, ⟨_, hA3.mo up4.mo (fun z => h1 (List.mem_singleton.mp z).symm), sb_fitC (sb_fitT u) h6, fun j hj => ?_⟩, fun x hx => ?_, by omega, h9⟩, k2, k3, k4, ?_, (u1.tr up3.us (c := min 1 (m' - m)) (s := 2 * (m' - m)) (c2 := 0) (s2 := 0) (by omega) (by omega)).tr up4.us (c2 := 0) (s2 := 0) (by omega) (by omega)⟩
    · by_cases q : j < t.length
      · rw [pk_cpy_out (Or.inl q), getD_app_lo q]
        exact h6' j q
      · rw [pk_cpy_in (by omega) (by omega), getD_app_hi (by omega), Nat.zero_add]
    · rcases List.mem_append.mp hx with q | q
      · exact h7 x q
      · exact f7 x q
    · refine ((m1.mono (S := [a, v]) (fun q z => Or.inl (by rw [List.mem_singleton.mp z]; exact List.mem_cons_self))).up up3 ?_).up up4 (Or.inl List.mem_cons_self)
      rcases k3 with rfl | k3
      · exact Or.inl (List.mem_cons_of_mem _ (List.mem_singleton.mpr rfl))
      · exact Or.inr k3
  refine sSb_append_1_0 zRf_ref (by omega) (Nat.le_of_ble_eq_true rfl) h.is inner ?_
  rintro r H1 - ⟨rfl, hP⟩ - - -
  exact sSb_append_1_5 rfl zRf_ref ⟨_, rfl, zRf_ref, rfl, hP⟩
end JB
