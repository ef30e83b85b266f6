/-- the cells that may change lie behind the start -/
def zLi (G : zG) (H : Heap) (L : List Nat) : Prop := ∀ q ∈ L, zFr G q ∧ q < H.size
theorem zLi.mo {G : zG} {H H1 : Heap} {L : List Nat} (h : zLi G H L) (m : H.size ≤ H1.size) : zLi G H1 L := fun q hq => ⟨(h q hq).1, Nat.lt_of_lt_of_le (h q hq).2 m⟩
theorem zLi.new {G : zG} {H : Heap} {L : List Nat} (h : zLi G H L) {q : Nat} (hq : H.size ≤ q) : q ∉ L := fun z => by have := (h q z).2; omega
theorem zFr_new {G : zG} {H : Heap} (ho : zOk G H) : zFr G H.size := ho.1
theorem sb_fitT (t : List Nat) : sb_Fit (fun j => sb_b (t.getD j 0)) := fun _ => sb_fitB _
theorem zCpB {G : zG} {H : Heap} {x : Int32} (h : fits .byte (.int x) = true) : zCpv G H .byte (.int x) := Or.inl ⟨rfl, h, x, rfl⟩
theorem zCpyI (g h : Nat → Int32) (sp dp n j : Nat) : va_cpy (fun j => Value.int (g j)) (fun j => Value.int (h j)) sp dp n j = .int (va_cpy g h sp dp n j) := by
  unfold va_cpy
  split <;> rfl
section JA
variable {G : zG} {d : Nat} {L : List Nat} {H : Heap} {a : Nat} {t u : List Nat}
theorem c_Ar_copyOf (hC : zCs G) (hd : 1 ≤ d) {v n m : Nat} {g : Nat → Int32} (hA : zArr G H v .byte n (fun j => .int (g j))) (hg : sb_Fit g) (hnm : n < m) (hm : m ≤ 65536) (hR : zRm G H 1 m) :
    zC G d M_Ar_copyOf_0 [.ref v, .int (nI m)] H (zPr fun r H1 => r = .ref H.size ∧ zArr G H1 H.size .byte m (fun j => .int (va_cpy g (fun _ => 0) 0 0 n j)) ∧ zMo [] H H1 ∧ zUs 1 m H H1) := by
  refine zC_in [some (.ref v), some (.int (nI m)), none] pn_Ar_copyOf_0 hC.1 rfl (Nat.le_of_ble_eq_true rfl) rfl (fun ho => ?_)
  refine sAr_copyOf_0_0 hA (fun _ => ?_) (fun e => absurd ((nI_eq (by omega) (by omega)).mp e) (by omega))
  refine sAr_copyOf_0_14 (N := m) (nI_pos (by omega)) (nI_clamp (by omega)) (by show m * 1 ≤ _; omega) hR.1 hR.2 (fun H1 hB hN => ?_)
  have hA1 := hA.ex hN.mo
  refine sAr_copyOf_0_17 zRf_ref hA1 hd (Nat.le_of_ble_eq_true rfl) (c_Ma_min hC _ _) ?_
  rintro r H2 ⟨rfl, rfl⟩ ho2 - -
  rw [if_neg (nI_nlt (by omega) (by omega))]
  have ec : (nI n).toNatClampNeg = n := nI_clamp (by omega)
  refine zw_copy dAr_copyOf_0_28 hd zcp_Ar_150 zcp_nat zcp_stat zcp_init hA1 hB (zFr_new ho) (by decide) (by decide) (nI_pos (by omega)) (by rw [ec, sb_cl0]; omega) (by rw [ec, sb_cl0]; omega) (fun i hi => zCpB (hg _)) (Nat.le_of_ble_eq_true rfl) (fun H3 hB3 hu => ?_)
  refine sAr_copyOf_0_31 zRf_ref ⟨_, rfl, zRf_ref, rfl, hB3.to (fun j hj => ?_), hN.mo.up hu (Or.inr (Nat.le_refl _)), hN.us.tr hu.us (c2 := 0) (s2 := 0) (by omega) (by omega)⟩
  rw [ec, sb_cl0]
  exact zCpyI g (fun _ => 0) 0 0 n j
theorem c_Ar_checkLength (hC : zCs G) {i k : Nat} (h : i ≤ k) (hk : k < 2 ^ 31) : zC G d M_Ar_checkLength [.int (nI i), .int (nI k)] H (zPv fun H1 => H1 = H) := by
  refine zC_in [some (.int (nI i)), some (.int (nI k))] pn_Ar_checkLength hC.1 rfl (Nat.le_of_ble_eq_true rfl) rfl (fun ho => ?_)
  exact sAr_checkLength_0 (fun _ => sAr_checkLength_37 ⟨rfl, rfl⟩) (fun e => absurd (nI_le h hk) e)
theorem c_Ar_copyOfRangeByte (hC : zCs G) (hd : 1 ≤ d) {v n i k : Nat} {g : Nat → Int32} (hA : zArr G H v .byte n (fun j => .int (g j))) (hg : sb_Fit g) (hik : i ≤ k) (hk : k ≤ n) (hn : n ≤ 65536) (hR : zRm G H 1 (k - i)) :
    zC G d M_Ar_copyOfRangeByte [.ref v, .int (nI i), .int (nI k)] H (zPr fun r H1 => r = .ref H.size ∧ zArr G H1 H.size .byte (k - i) (fun j => .int (g (i + j))) ∧ zMo [] H H1 ∧ zUs 1 (k - i) H H1) := by
  refine zC_in [some (.ref v), some (.int (nI i)), some (.int (nI k)), none, none] pn_Ar_copyOfRangeByte hC.1 rfl (Nat.le_of_ble_eq_true rfl) rfl (fun ho => ?_)
  refine sAr_copyOfRangeByte_0 hd (Nat.le_of_ble_eq_true rfl) (c_Ar_checkLength hC hik (by omega)) ?_
  rintro H1 rfl - - -
  have es : nI k - nI i = nI (k - i) := pk_sub hik
  refine sAr_copyOfRangeByte_5 (N := k - i) (by rw [es]; exact nI_pos (by omega)) (by rw [es]; exact nI_clamp (by omega)) (by show (k - i) * 1 ≤ _; omega) hR.1 hR.2 (fun H2 hB hN => ?_)
  rw [es]
  have hA1 := hA.ex hN.mo
  refine sAr_copyOfRangeByte_12 zRf_ref hA1 hd (Nat.le_of_ble_eq_true rfl) (c_Ma_min hC _ _) ?_
  rintro r H3 ⟨rfl, rfl⟩ ho2 - -
  have em : (if nI (k - i) < nI n - nI i then nI (k - i) else nI n - nI i) = nI (k - i) := by
    rw [show nI n - nI i = nI (n - i) from pk_sub (by omega)]
    by_cases q : k - i < n - i
    · rw [if_pos (nI_lt q (by omega))]
    · rw [if_neg (nI_nlt (by omega) (by omega)), show n - i = k - i by omega]
  rw [em]
  have ec : (nI (k - i)).toNatClampNeg = k - i := nI_clamp (by omega)
  have ei : (nI i).toNatClampNeg = i := nI_clamp (by omega)
  refine zw_copy dAr_copyOfRangeByte_27 hd zcp_Ar_150 zcp_nat zcp_stat zcp_init hA1 hB (zFr_new ho) (nI_pos (by omega)) (by decide) (nI_pos (by omega)) (by rw [ec, ei]; omega) (by rw [ec, sb_cl0]; omega) (fun j hj => zCpB (hg _)) (Nat.le_of_ble_eq_true rfl) (fun H4 hB3 hu => ?_)
  refine sAr_copyOfRangeByte_30 zRf_ref ⟨_, rfl, zRf_ref, rfl, hB3.to (fun j hj => ?_), hN.mo.up hu (Or.inr (Nat.le_refl _)), hN.us.tr hu.us (c2 := 0) (s2 := 0) (by omega) (by omega)⟩
  rw [ec, ei, sb_cl0, pk_cpy_in (Nat.zero_le _) (by omega)]
  rfl
theorem c_Ar_copyOfRange (hC : zCs G) (hd : 2 ≤ d) {v n i k : Nat} {g : Nat → Int32} (hA : zArr G H v .byte n (fun j => .int (g j))) (hg : sb_Fit g) (hik : i ≤ k) (hk : k ≤ n) (hn : n ≤ 65536) (hfr : zFr G v ∨ ¬ (i = 0 ∧ k = n)) (hR : zRm G H 1 (k - i)) :
    zC G d M_Ar_copyOfRange [.ref v, .int (nI i), .int (nI k)] H (zPr fun r H1 => r = .ref H.size ∧ zArr G H1 H.size .byte (k - i) (fun j => .int (g (i + j))) ∧ zMo [] H H1 ∧ zUs 1 (k - i) H H1) := by
  refine zC_in [some (.ref v), some (.int (nI i)), some (.int (nI k))] pn_Ar_copyOfRange hC.1 rfl (Nat.le_of_ble_eq_true rfl) rfl (fun ho => ?_)
  have part : zW G d M_Ar_copyOfRange 10 [some (.ref v), some (.int (nI i)), some (.int (nI k))] [] H (zPr fun r H1 => r = .ref H.size ∧ zArr G H1 H.size .byte (k - i) (fun j => .int (g (i + j))) ∧ zMo [] H H1 ∧ zUs 1 (k - i) H H1) := by
    refine sAr_copyOfRange_10 zRf_ref (by omega) (Nat.le_of_ble_eq_true rfl) (c_Ar_copyOfRangeByte hC (by omega) hA hg hik hk hn hR) ?_
    intro r H1 hr hP _ _ _
    exact sAr_copyOfRange_16 hr ⟨_, rfl, hr, hP⟩
  refine sAr_copyOfRange_0 (fun _ => part) (fun e => ?_)
  have e0 : i = 0 := (nI_eq (b := 0) (by omega) (by decide)).mp e
  refine sAr_copyOfRange_4 hA (fun e2 => ?_) (fun _ => part)
  have e3 : k = n := (nI_eq (by omega) (by omega)).mp e2
  have hv : zFr G v := hfr.resolve_right (fun z => z ⟨e0, e3⟩)
  subst e0 e3
  refine sAr_copyOfRange_17 zRf_ref ?_
  refine zw_cloneB dAr_copyOfRange_18 (by omega) zcl_Ar_310 zcl_1 zcl_2 zcl_3 zcl_4 zcl_5 hA hv (fun j hj => hg j) hR.1 (by have := hR.2; omega) (Nat.le_of_ble_eq_true rfl) (fun H1 hB hN => ?_)
  refine zw_castA "[B" dAr_copyOfRange_21 zcx_Ar_311 hB (hB.nmB (zFr_new ho)) ?_
  refine zw_aret dAr_copyOfRange_24 _ rfl (Or.inr ⟨_, rfl⟩) zRf_ref ⟨_, rfl, zRf_ref, rfl, ?_, hN.mo, hN.us⟩
  exact hB.to (fun j hj => by rw [Nat.zero_add])
theorem c_St_init2 (hC : zCs G) (hd : 1 ≤ d) {v : Nat} {b0 b1 b2 b3 : Value} (ho : zObj G H a 8 [b0, b1, b2, b3]) (ha : zFr G a) : zC G d M_St_init_2 [.ref a, .ref v, .int 0] H (zPv fun H1 => zObj G H1 a 8 [.ref v, .int 0, b2, b3] ∧ zMo [a] H H1 ∧ zUs 0 0 H H1) := by
  refine zC_in [some (.ref a), some (.ref v), some (.int 0)] pn_St_init_2 hC.1 rfl (Nat.le_of_ble_eq_true rfl) rfl (fun ho2 => ?_)
  refine sSt_init_2_0 hd (Nat.le_of_ble_eq_true rfl) ?_
  refine sSt_init_2_4 zRf_ref ho ha (fun H1 h1 u1 => ?_)
  refine sSt_init_2_9 h1 ha rfl rfl (fun H2 h2 u2 => ?_)
  exact sSt_init_2_14 ⟨rfl, h2, u1.mo.up u2 (Or.inl (List.mem_singleton.mpr rfl)), u1.us.tr u2.us (c1 := 0) (s1 := 0) (c2 := 0) (s2 := 0) (by omega) (by omega)⟩
theorem take_drop_getD (t : List Nat) (i n j : Nat) (hj : j < n) : ((t.drop i).take n).getD j 0 = t.getD (i + j) 0 := by
  rw [List.getD_eq_getElem?_getD, List.getD_eq_getElem?_getD, List.getElem?_take, if_pos hj, List.getElem?_drop]
theorem c_L1_newString (hC : zCs G) (hd : 3 ≤ d) {v i n : Nat} (hA : zArr G H v .byte u.length (fun j => .int (sb_b (u.getD j 0)))) (hb : ∀ c ∈ u, c < 256) (hl : u.length ≤ 65536) (hi : i + n ≤ u.length) (hfr : zFr G v ∨ ¬ (i = 0 ∧ n = u.length)) (hL : zLi G H L) (hR : zRm G H 2 (n + 4)) :
    zC G d M_L1_newString [.ref v, .int (nI i), .int (nI n)] H (zPr fun r H1 => ∃ b, r = .ref b ∧ zTx G L H1 b ((u.drop i).take n) ∧ zMo [] H H1 ∧ zUs 2 (n + 4) H H1) := by
  refine zC_in [some (.ref v), some (.int (nI i)), some (.int (nI n))] pn_L1_newString hC.1 rfl (Nat.le_of_ble_eq_true rfl) rfl (fun ho => ?_)
  refine sL1_newString_0 (fun e => ?_) (fun e => ?_)
  · refine sL1_newString_7 (by have := hR.1; omega) (by have := hR.2; omega) (fun H1 h1 n1 => ?_)
    have hA1 := hA.ex n1.mo
    have hR1 : zRm G H1 1 n := hR.us n1.us 1 n (by omega) (by omega)
    refine sL1_newString_10 rfl zRf_ref (by omega) (Nat.le_of_ble_eq_true rfl) (by rw [nI_add]; exact c_Ar_copyOfRange hC (by omega) hA1 (sb_fitT u) (Nat.le_add_right i n) hi hl (hfr.imp id (fun z q => z ⟨q.1, by omega⟩)) (by rw [Nat.add_sub_cancel_left]; exact hR1)) ?_
    rintro r H2 - ⟨rfl, h2, m2, u2⟩ ho2 - -
    rw [Nat.add_sub_cancel_left] at h2 u2
    have h1' := h1.ex m2
    refine sL1_newString_19 zRf_ref (by omega) (Nat.le_of_ble_eq_true rfl) (c_St_init2 hC (by omega) h1' (zFr_new ho)) ?_
    rintro H3 ⟨h3, m3, u3⟩ ho3 - -
    have e1 : H1.size = H.size + 1 := n1.1
    have hm : zMo [] H H3 := (n1.mo.ex m2).tr m3 (fun q z => by cases z) (fun q z => Or.inr (by rw [List.mem_singleton.mp z]; exact Nat.le_refl _))
    refine sL1_newString_23 zRf_ref ⟨_, rfl, zRf_ref, _, rfl, ?_, hm, (n1.us.tr u2 (c := 2) (s := n + 4) (by omega) (by omega)).tr u3 (by omega) (by omega)⟩
    have hlen : ((u.drop i).take n).length = n := by
      rw [List.length_take, List.length_drop]
      omega
    refine ⟨H1.size, hL.new (Nat.le_refl _), hL.new (by omega), h3.is, h3.fd rfl, h3.fd rfl, ?_, fun c hc => hb c (List.mem_of_mem_drop (List.mem_of_mem_take hc)), by omega⟩
    rw [hlen]
    refine (h2.mo m3 (fun z => by have := List.mem_singleton.mp z; omega)).to (fun j hj => ?_)
    rw [take_drop_getD u i n j hj]
  · have e0 : n = 0 := (nI_eq (b := 0) (by omega) (by decide)).mp e
    subst e0
    obtain ⟨k, hk, hkl, hkt⟩ := hC.2.2.2
    refine sL1_newString_4 hk ⟨_, rfl, zRf_ref, k, rfl, ?_, zMo.rf, zUs.rf⟩
    rw [List.take_zero]
    obtain ⟨w, h1, h2, h3, h4, h5, h6, h7⟩ := hkt
    have hw : w < (zS G).heap.size := h6.lt
    have kk := ho.2.1 k hkl
    have kw := ho.2.1 w hw
    exact ⟨w, fun z => by have := (hL k z).1; unfold zFr at this; omega, fun z => by have := (hL w z).1; unfold zFr at this; omega, h3.kept kk, h4.kept kk, h5.kept kk, h6.kept kw, h7⟩
theorem c_Pc_fromTo {v : Value} (hC : zCs G) (hv : zRf v) {i k n : Nat} (h1 : i ≤ k) (h2 : k ≤ n) (hn : n < 2 ^ 31) : zC G d M_Pc_checkFromToIndex [.int (nI i), .int (nI k), .int (nI n), v] H (zRd H (nI i)) := by
  have hcat : ([.int (nI i), .int (nI k), .int (nI n), v] : List Value).all (fun v => v.category == 1) = true := by
    rcases hv with rfl | ⟨b, rfl⟩ <;> rfl
  refine zC_in [some (.int (nI i)), some (.int (nI k)), some (.int (nI n)), some v] pn_Pc_checkFromToIndex hC.1 hcat (Nat.le_of_ble_eq_true rfl) rfl (fun ho => ?_)
  refine sPc_checkFromToIndex_0 (fun h => absurd h (nI_pos (by omega))) (fun _ => ?_)
  refine sPc_checkFromToIndex_4 (fun h => absurd h (nI_nlt h1 (by omega))) (fun _ => ?_)
  exact sPc_checkFromToIndex_9 (fun _ => sPc_checkFromToIndex_22 ⟨_, rfl, rfl, rfl⟩) (fun h => absurd (nI_le h2 hn) h)
theorem c_St_checkBBE (hC : zCs G) (hd : 1 ≤ d) {i k n : Nat} (h1 : i ≤ k) (h2 : k ≤ n) (hn : n < 2 ^ 31) : zC G d M_St_checkBoundsBeginEnd [.int (nI i), .int (nI k), .int (nI n)] H (zPv fun H1 => H1 = H) := by
  obtain ⟨v, hv, hz⟩ := hC.2.2.1
  refine zC_in [some (.int (nI i)), some (.int (nI k)), some (.int (nI n))] pn_St_checkBoundsBeginEnd hC.1 rfl (Nat.le_of_ble_eq_true rfl) rfl (fun ho => ?_)
  refine sSt_checkBoundsBeginEnd_0 hv hz hd (Nat.le_of_ble_eq_true rfl) (c_Pc_fromTo hC hv h1 h2 hn) ?_
  rintro r H1 ⟨rfl, rfl⟩ - - -
  exact sSt_checkBoundsBeginEnd_9 rfl ⟨rfl, rfl⟩
/-- substring(i, k) -/
theorem c_St_substring (hC : zCs G) (hd : 4 ≤ d) (h : zTx G L H a t) {i k : Nat} (hik : i ≤ k) (hk : k ≤ t.length) (hL : zLi G H L) (hR : zRm G H 2 (k - i + 4)) :
    zC G d M_St_substring_0 [.ref a, .int (nI i), .int (nI k)] H (zPr fun r H1 => ∃ b, r = .ref b ∧ zTx G L H1 b ((t.drop i).take (k - i)) ∧ zMo [] H H1 ∧ zUs 2 (k - i + 4) H H1) := by
  have h0 := h
  obtain ⟨v, h1, h2, h3, h4, h5, h6, h7, h8⟩ := h
  refine zC_in [some (.ref a), some (.int (nI i)), some (.int (nI k)), none, none] pn_St_substring_0 hC.1 rfl (Nat.le_of_ble_eq_true rfl) rfl (fun ho => ?_)
  refine sSt_substring_0_0 (by omega) (Nat.le_of_ble_eq_true rfl) h3 (c_St_length hC (by omega) h0) ?_
  rintro r H1 ⟨rfl, rfl⟩ - - -
  refine sSt_substring_0_4 (by omega) (Nat.le_of_ble_eq_true rfl) (c_St_checkBBE hC (by omega) hik hk (by omega)) ?_
  rintro H1 rfl - - -
  have part : ¬ (i = 0 ∧ k = t.length) → zW G d M_St_substring_0 22 [some (.ref a), some (.int (nI i)), some (.int (nI k)), some (.int (nI t.length)), none] [] H1 (zPr fun r H2 => ∃ b, r = .ref b ∧ zTx G L H2 b ((t.drop i).take (k - i)) ∧ zMo [] H1 H2 ∧ zUs 2 (k - i + 4) H1 H2) := by
    intro hne
    refine sSt_substring_0_22 (by omega) (Nat.le_of_ble_eq_true rfl) h3 (c_St_isLatin1 hC h5) ?_
    rintro r H2 ⟨rfl, rfl⟩ - - -
    rw [pk_sub hik]
    refine sSt_substring_0_31 (fun z => absurd z (by decide)) (fun _ => ?_)
    refine sSt_substring_0_34 zRf_ref h4 (by omega) (Nat.le_of_ble_eq_true rfl) (c_L1_newString hC (by omega) h6 h7 h8 (by omega) (Or.inr (fun z => hne ⟨z.1, by omega⟩)) hL hR) ?_
    intro r H3 hr hP _ _ _
    exact sSt_substring_0_44 hr ⟨_, rfl, hr, hP⟩
  refine sSt_substring_0_11 (fun e => part (fun z => e (by rw [z.1]; rfl))) (fun e => ?_)
  have e0 : i = 0 := (nI_eq (b := 0) (by omega) (by decide)).mp e
  refine sSt_substring_0_15 (fun e2 => part (fun z => e2 (by rw [z.2]))) (fun e2 => ?_)
  have e3 : k = t.length := (nI_eq (by omega) (by omega)).mp e2
  refine sSt_substring_0_20 zRf_ref ⟨_, rfl, zRf_ref, a, rfl, ?_, zMo.rf, zUs.rf⟩
  rw [e0, e3, List.drop_zero, Nat.sub_zero, List.take_length]
  exact h0
/-- substring(i) -/
theorem c_St_substring1 (hC : zCs G) (hd : 5 ≤ d) (h : zTx G L H a t) {i : Nat} (hi : i ≤ t.length) (hL : zLi G H L) (hR : zRm G H 2 (t.length - i + 4)) :
    zC G d M_St_substring_1 [.ref a, .int (nI i)] H (zPr fun r H1 => ∃ b, r = .ref b ∧ zTx G L H1 b (t.drop i) ∧ zMo [] H H1 ∧ zUs 2 (t.length - i + 4) H H1) := by
  refine zC_in [some (.ref a), some (.int (nI i))] pn_St_substring_1 hC.1 rfl (Nat.le_of_ble_eq_true rfl) rfl (fun ho => ?_)
  refine sSt_substring_1_0 (by omega) (Nat.le_of_ble_eq_true rfl) h.is (c_St_length hC (by omega) h) ?_
  rintro r H1 ⟨rfl, rfl⟩ - - -
  refine sSt_substring_1_6 (by omega) (Nat.le_of_ble_eq_true rfl) h.is (c_St_substring hC (by omega) h hi (Nat.le_refl _) hL hR) ?_
  rintro r H2 hr ⟨b, rfl, h2, m2, u2⟩ - - -
  refine sSt_substring_1_9 zRf_ref ⟨_, rfl, zRf_ref, b, rfl, ?_, m2, u2⟩
  rw [show (t.drop i) = (t.drop i).take (t.length - i) from (List.take_of_length_le (by rw [List.length_drop]; exact Nat.le_refl _)).symm]
  exact h2
end JA
