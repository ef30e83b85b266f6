theorem zTx_get {t : List Nat} (h : ∀ c ∈ t, c < 256) (i : Nat) : t.getD i 0 < 256 := by
  rw [List.getD_eq_getElem?_getD]
  cases e : t[i]? with
  | none => decide
  | some c => exact h c (List.mem_of_getElem? e)
theorem sb_inj {c c' : Nat} (h : c < 256) (h' : c' < 256) : sb_b c = sb_b c' ↔ c = c' := by
  constructor
  · intro e
    have e1 := (sb_byte c h).1
    have e2 := (sb_byte c' h').1
    rw [e] at e1
    exact (nI_eq (by omega) (by omega)).mp (e1.symm.trans e2)
  · rintro rfl; rfl
/-- where c stands first, or -1 -/
def zIx (c : Nat) (t : List Nat) : Int32 := if t.findIdx (· == c) < t.length then nI (t.findIdx (· == c)) else -1
section JT2
variable {G : zG} {d : Nat} {L : List Nat} {H : Heap} {a : Nat} {t u : List Nat}
theorem c_St_checkIndex (hC : zCs G) (hd : 1 ≤ d) {i n : Nat} (hi : i < n) (hn : n < 2 ^ 31) : zC G d M_St_checkIndex [.int (nI i), .int (nI n)] H (zPv (fun H1 => H1 = H)) := by
  obtain ⟨v, hv, hz⟩ := hC.2.2.1
  refine zC_in [some (.int (nI i)), some (.int (nI n))] pn_St_checkIndex hC.1 rfl (Nat.le_of_ble_eq_true rfl) rfl (fun ho => ?_)
  refine sSt_checkIndex_0 hv hz hd (Nat.le_of_ble_eq_true rfl) (c_Pc_checkIndex hC hv hi hn) ?_
  rintro r H1 ⟨rfl, rfl⟩ - - -
  exact sSt_checkIndex_8 rfl ⟨rfl, rfl⟩
theorem c_L1_charAt (hC : zCs G) (hd : 2 ≤ d) {v i : Nat} (hA : zArr G H v .byte t.length (fun j => .int (sb_b (t.getD j 0)))) (hb : ∀ c ∈ t, c < 256) (hl : t.length ≤ 65536) (hi : i < t.length) : zC G d M_L1_charAt [.ref v, .int (nI i)] H (zRd H (nI (t.getD i 0))) := by
  refine zC_in [some (.ref v), some (.int (nI i))] pn_L1_charAt hC.1 rfl (Nat.le_of_ble_eq_true rfl) rfl (fun ho => ?_)
  refine sL1_charAt_0 hA (by omega) (Nat.le_of_ble_eq_true rfl) (c_St_checkIndex hC (by omega) hi (by omega)) ?_
  rintro H1 rfl - - -
  have hb1 := zTx_get hb i
  obtain ⟨b1, b2, -⟩ := sb_byte _ hb1
  have e : (((sb_b (t.getD (nI i).toNatClampNeg 0)) &&& (255 : Int32)).toUInt32 % 65536).toInt32 = nI (t.getD i 0) := by rw [nI_clamp (by omega), b1, b2]
  refine sL1_charAt_6 hA (vp_in_nI hi (by omega)) ?_ ⟨_, rfl, e, rfl⟩
  rw [e]
  exact (pk_charN (by omega)).1
theorem c_St_charAt (hC : zCs G) (hd : 3 ≤ d) (h : zTx G L H a t) {i : Nat} (hi : i < t.length) : zC G d M_St_charAt [.ref a, .int (nI i)] H (zRd H (nI (t.getD i 0))) := by
  obtain ⟨v, h1, h2, h3, h4, h5, h6, h7, h8⟩ := h
  refine zC_in [some (.ref a), some (.int (nI i))] pn_St_charAt hC.1 rfl (Nat.le_of_ble_eq_true rfl) rfl (fun ho => ?_)
  refine sSt_charAt_0 (by omega) (Nat.le_of_ble_eq_true rfl) h3 (c_St_isLatin1 hC h5) ?_
  rintro r H1 ⟨rfl, rfl⟩ - - -
  refine sSt_charAt_4 (fun z => absurd z (by decide)) (fun _ => ?_)
  refine sSt_charAt_7 zRf_ref h4 (by omega) (Nat.le_of_ble_eq_true rfl) (c_L1_charAt hC (by omega) h6 h7 h8 hi) ?_
  rintro r H1 ⟨rfl, rfl⟩ - - -
  refine sSt_charAt_15 ?_ ⟨_, rfl, rfl, rfl⟩
  exact (pk_charN (by have := zTx_get h7 i; omega)).1
theorem c_L1_equals (hC : zCs G) {v w : Nat} (hA : zArr G H v .byte t.length (fun j => .int (sb_b (t.getD j 0)))) (hB : zArr G H w .byte u.length (fun j => .int (sb_b (u.getD j 0)))) (ht : ∀ c ∈ t, c < 256) (hu : ∀ c ∈ u, c < 256) (hl : t.length ≤ 65536) (hl2 : u.length ≤ 65536) : zC G d M_L1_equals [.ref v, .ref w] H (zRd H (if t = u then 1 else 0)) := by
  refine zC_in [some (.ref v), some (.ref w), none] pn_L1_equals hC.1 rfl (Nat.le_of_ble_eq_true rfl) rfl (fun ho => ?_)
  refine sL1_equals_0 hA hB (fun e => ?_) (fun e => ?_)
  · refine sL1_equals_34 rfl ⟨_, rfl, ?_, rfl⟩
    rw [if_neg (fun z => e (by rw [z]))]
  · have el : t.length = u.length := (nI_eq (by omega) (by omega)).mp e
    refine sL1_equals_7 ?_
    have main : ∀ (k j : Nat), j + k = t.length → (∀ i, i < j → t.getD i 0 = u.getD i 0) → zW G d M_L1_equals 9 [some (.ref v), some (.ref w), some (.int (nI j))] [] H (zRd H (if t = u then 1 else 0)) := by
      intro k
      induction k with
      | zero =>
        intro j hj hs
        refine sL1_equals_9 hA (fun _ => ?_) (fun z => absurd (nI_le (by omega) (by omega)) z)
        refine sL1_equals_32 rfl ⟨_, rfl, ?_, rfl⟩
        rw [if_pos]
        apply List.ext_getElem?
        intro i
        by_cases hi : i < t.length
        · have := hs i (by omega)
          rw [List.getD_eq_getElem?_getD, List.getD_eq_getElem?_getD, List.getElem?_eq_getElem hi, List.getElem?_eq_getElem (by omega)] at this
          rw [List.getElem?_eq_getElem hi, List.getElem?_eq_getElem (by omega)]
          exact congrArg some this
        · rw [List.getElem?_eq_none (by omega), List.getElem?_eq_none (by omega)]
      | succ k ih =>
        intro j hj hs
        refine sL1_equals_9 hA (fun z => absurd z (nI_ge (by omega) (by omega))) (fun _ => ?_)
        refine sL1_equals_15 hA (vp_in_nI (by omega) (by omega)) hB (vp_in_nI (by omega) (by omega)) (fun z => ?_) (fun z => ?_)
        · rw [nI_clamp (by omega)] at z
          have z' := (sb_inj (zTx_get ht j) (zTx_get hu j)).mp z
          refine sL1_equals_26 ?_
          rw [nI_1]
          exact ih (j + 1) (by omega) (lt_s hs z')
        · refine sL1_equals_24 rfl ⟨_, rfl, ?_, rfl⟩
          rw [if_neg (fun q => z (by rw [q]))]
    exact main t.length 0 (by omega) (fun i h => absurd h (Nat.not_lt_zero i))
theorem c_St_equals (hC : zCs G) (hd : 1 ≤ d) {L2 : List Nat} {b : Nat} (h : zTx G L H a t) (h' : zTx G L2 H b u) : zC G d M_St_equals [.ref a, .ref b] H (zRd H (if t = u then 1 else 0)) := by
  refine zC_in [some (.ref a), some (.ref b), none] pn_St_equals hC.1 rfl (Nat.le_of_ble_eq_true rfl) rfl (fun ho => ?_)
  refine sSt_equals_0 zRf_ref zRf_ref ?_
  refine zw_acmp_ne (rx := some a) (ry := some b) 7 dSt_equals_2 (by decide) (fun e => ?_) (fun e => ?_)
  · obtain ⟨v, h1, h2, h3, h4, h5, h6, h7, h8⟩ := h
    obtain ⟨w, g1, g2, g3, g4, g5, g6, g7, g8⟩ := h'
    refine sSt_equals_7 g3 (fun z => absurd z (by decide)) (fun _ => ?_)
    refine sSt_equals_14 g3 hC.2.1 (fun z => absurd z (by decide)) (fun _ => ?_)
    refine sSt_equals_25 h5 g5 (fun z => absurd rfl z) (fun _ => ?_)
    refine sSt_equals_36 zRf_ref zRf_ref h4 g4 hd (Nat.le_of_ble_eq_true rfl) (c_L1_equals hC h6 g6 h7 g7 h8 g8) ?_
    rintro r H1 ⟨rfl, rfl⟩ - - -
    by_cases q : t = u
    · rw [if_pos q]
      exact sSt_equals_47 (fun z => absurd z (by decide)) (fun _ => sSt_equals_50 rfl ⟨_, rfl, rfl, rfl⟩)
    · rw [if_neg q]
      exact sSt_equals_47 (fun z => sSt_equals_54 rfl ⟨_, rfl, rfl, rfl⟩) (fun z => absurd rfl z)
  · refine sSt_equals_5 rfl ⟨_, rfl, ?_, rfl⟩
    have e' : a = b := Option.some.inj e
    subst e'
    rw [if_pos]
    obtain ⟨v, h1, h2, h3, h4, h5, h6, h7, h8⟩ := h
    obtain ⟨w, g1, g2, g3, g4, g5, g6, g7, g8⟩ := h'
    obtain ⟨c1, k1, -, k2⟩ := h4
    obtain ⟨c2, m1, -, m2⟩ := g4
    cases k1.symm.trans m1
    cases k2.symm.trans m2
    obtain ⟨c3, n1, -, -, n2, n3, -⟩ := h6
    obtain ⟨c4, o1, -, -, o2, o3, -⟩ := g6
    cases n1.symm.trans o1
    apply List.ext_getElem?
    intro i
    by_cases hi : i < t.length
    · have q1 := n3 i hi
      have q2 := o3 i (by omega)
      rw [q1] at q2
      have q3 : sb_b (t.getD i 0) = sb_b (u.getD i 0) := by
        have := Option.some.inj q2
        exact Value.int.inj this
      have q4 := (sb_inj (zTx_get h7 i) (zTx_get g7 i)).mp q3
      rw [List.getD_eq_getElem?_getD, List.getD_eq_getElem?_getD, List.getElem?_eq_getElem hi, List.getElem?_eq_getElem (by omega)] at q4
      rw [List.getElem?_eq_getElem hi, List.getElem?_eq_getElem (by omega)]
      exact congrArg some q4
    · rw [List.getElem?_eq_none (by omega), List.getElem?_eq_none (by omega)]
theorem c_Ma_max (hC : zCs G) (x y : Int32) : zC G d M_Ma_max [.int x, .int y] H (zRd H (if x < y then y else x)) := by
  refine zC_in [some (.int x), some (.int y)] pn_Ma_max hC.1 rfl (Nat.le_of_ble_eq_true rfl) rfl (fun ho => ?_)
  refine sMa_max_0 (fun e => sMa_max_9 ⟨_, rfl, ?_, rfl⟩) (fun e => sMa_max_5 ⟨_, rfl, ?_, rfl⟩)
  · rw [if_pos e]
  · rw [if_neg e]
theorem c_Ma_min (hC : zCs G) (x y : Int32) : zC G d M_Ma_min [.int x, .int y] H (zRd H (if y < x then y else x)) := by
  refine zC_in [some (.int x), some (.int y)] pn_Ma_min hC.1 rfl (Nat.le_of_ble_eq_true rfl) rfl (fun ho => ?_)
  refine sMa_min_0 (fun e => sMa_min_9 ⟨_, rfl, ?_, rfl⟩) (fun e => sMa_min_5 ⟨_, rfl, ?_, rfl⟩)
  · rw [if_pos e]
  · rw [if_neg e]
theorem c_L1_canEncode_1 (hC : zCs G) {c : Nat} (hc : c < 256) : zC G d M_L1_canEncode_1 [.int (nI c)] H (zRd H 1) := by
  refine zC_in [some (.int (nI c))] pn_L1_canEncode_1 hC.1 rfl (Nat.le_of_ble_eq_true rfl) rfl (fun ho => ?_)
  refine sL1_canEncode_1_0 (fun e => absurd e (nI_pos (by omega))) (fun _ => ?_)
  exact sL1_canEncode_1_4 (fun e => absurd e (show ¬ nI 255 < nI c from nI_nlt (by omega) (by decide))) (fun _ => sL1_canEncode_1_11 rfl ⟨_, rfl, rfl, rfl⟩)
theorem c_L1_canEncode_0 (hC : zCs G) {c : Nat} (hc : c < 256) : zC G d M_L1_canEncode_0 [.int (nI c)] H (zRd H 1) := by
  refine zC_in [some (.int (nI c))] pn_L1_canEncode_0 hC.1 rfl (Nat.le_of_ble_eq_true rfl) rfl (fun ho => ?_)
  exact sL1_canEncode_0_0 (fun e => absurd e (show ¬ nI 255 < nI c from nI_nlt (by omega) (by decide))) (fun _ => sL1_canEncode_0_7 rfl ⟨_, rfl, rfl, rfl⟩)
theorem c_L1_indexOfChar (hC : zCs G) {v c : Nat} (hA : zArr G H v .byte t.length (fun j => .int (sb_b (t.getD j 0)))) (ht : ∀ x ∈ t, x < 256) (hl : t.length ≤ 65536) (hc : c < 256) : zC G d M_L1_indexOfChar [.ref v, .int (nI c), .int 0, .int (nI t.length)] H (zRd H (zIx c t)) := by
  refine zC_in [some (.ref v), some (.int (nI c)), some (.int 0), some (.int (nI t.length)), none, none] pn_L1_indexOfChar hC.1 rfl (Nat.le_of_ble_eq_true rfl) rfl (fun ho => ?_)
  refine sL1_indexOfChar_0 ?_
  have main : ∀ (k j : Nat), j + k = t.length → (∀ i, i < j → t.getD i 0 ≠ c) → zW G d M_L1_indexOfChar 7 [some (.ref v), some (.int (nI c)), some (.int 0), some (.int (nI t.length)), some (.int (sb_b c)), some (.int (nI j))] [] H (zRd H (zIx c t)) := by
    intro k
    induction k with
    | zero =>
      intro j hj hs
      refine sL1_indexOfChar_7 (fun _ => ?_) (fun z => absurd (nI_le (by omega) (by omega)) z)
      refine sL1_indexOfChar_31 ⟨_, rfl, ?_, rfl⟩
      unfold zIx
      rw [if_neg]
      intro z
      have h1 := List.findIdx_getElem (p := (· == c)) (w := z)
      have h2 := hs _ (show t.findIdx (· == c) < j by omega)
      rw [List.getD_eq_getElem?_getD, List.getElem?_eq_getElem z] at h2
      exact h2 (by simpa using h1)
    | succ k ih =>
      intro j hj hs
      refine sL1_indexOfChar_7 (fun z => absurd z (nI_ge (by omega) (by omega))) (fun _ => ?_)
      refine sL1_indexOfChar_13 hA (vp_in_nI (by omega) (by omega)) (fun z => ?_) (fun z => ?_)
      · rw [nI_clamp (by omega)] at z
        refine sL1_indexOfChar_25 ?_
        rw [nI_1]
        exact ih (j + 1) (by omega) (lt_s hs (fun q => z (by rw [q])))
      · rw [nI_clamp (by omega)] at z
        have z' := (sb_inj (zTx_get ht j) hc).mp z
        refine sL1_indexOfChar_22 ⟨_, rfl, ?_, rfl⟩
        have hjl : j < t.length := by omega
        have e : t.findIdx (· == c) = j := by
          rw [List.findIdx_eq hjl]
          refine ⟨?_, fun i hi => ?_⟩
          · rw [List.getD_eq_getElem?_getD, List.getElem?_eq_getElem hjl] at z'
            simpa using z'
          · have := hs i hi
            rw [List.getD_eq_getElem?_getD, List.getElem?_eq_getElem (by omega)] at this
            simpa using this
        unfold zIx
        rw [e, if_pos hjl]
  exact main t.length 0 (by omega) (fun i h => absurd h (Nat.not_lt_zero i))
theorem c_L1_indexOf (hC : zCs G) (hd : 1 ≤ d) {v c : Nat} (hA : zArr G H v .byte t.length (fun j => .int (sb_b (t.getD j 0)))) (ht : ∀ x ∈ t, x < 256) (hl : t.length ≤ 65536) (hc : c < 256) : zC G d M_L1_indexOf [.ref v, .int (nI c), .int 0, .int (nI t.length)] H (zRd H (zIx c t)) := by
  refine zC_in [some (.ref v), some (.int (nI c)), some (.int 0), some (.int (nI t.length))] pn_L1_indexOf hC.1 rfl (Nat.le_of_ble_eq_true rfl) rfl (fun ho => ?_)
  refine sL1_indexOf_0 hd (Nat.le_of_ble_eq_true rfl) (c_L1_canEncode_1 hC hc) ?_
  rintro r H1 ⟨rfl, rfl⟩ - - -
  refine sL1_indexOf_4 (fun _ => ?_) (fun z => absurd z (by decide))
  refine sL1_indexOf_9 hd (Nat.le_of_ble_eq_true rfl) (c_Ma_max hC 0 0) ?_
  rintro r H1 ⟨rfl, rfl⟩ - - -
  rw [if_neg (by decide)]
  refine sL1_indexOf_14 hA hd (Nat.le_of_ble_eq_true rfl) (c_Ma_min hC _ _) ?_
  rintro r H1 ⟨rfl, rfl⟩ - - -
  rw [if_neg Int32.lt_irrefl]
  refine sL1_indexOf_21 (fun z => ?_) (fun z => ?_)
  · refine sL1_indexOf_29 zRf_ref hd (Nat.le_of_ble_eq_true rfl) (c_L1_indexOfChar hC hA ht hl hc) ?_
    rintro r H1 ⟨rfl, rfl⟩ - - -
    exact sL1_indexOf_36 ⟨_, rfl, rfl, rfl⟩
  · refine sL1_indexOf_27 ⟨_, rfl, ?_, rfl⟩
    have : t.length = 0 := by
      rcases Nat.eq_zero_or_pos t.length with q | q
      · exact q
      · exact absurd (show nI 0 < nI t.length from nI_lt q (by omega)) z
    have e : t = [] := List.length_eq_zero_iff.mp this
    subst e
    rfl
theorem c_St_indexOf (hC : zCs G) (hd : 3 ≤ d) (h : zTx G L H a t) {c : Nat} (hc : c < 256) : zC G d M_St_indexOf_0 [.ref a, .int (nI c)] H (zRd H (zIx c t)) := by
  have h0 := h
  obtain ⟨v, h1, h2, h3, h4, h5, h6, h7, h8⟩ := h
  refine zC_in [some (.ref a), some (.int (nI c))] pn_St_indexOf_0 hC.1 rfl (Nat.le_of_ble_eq_true rfl) rfl (fun ho => ?_)
  have inner : zC G (d - 1) M_St_indexOf_1 [.ref a, .int (nI c), .int 0] H (zRd H (zIx c t)) := by
    refine zC_in [some (.ref a), some (.int (nI c)), some (.int 0)] pn_St_indexOf_1 hC.1 rfl (Nat.le_of_ble_eq_true rfl) rfl (fun ho => ?_)
    refine sSt_indexOf_1_0 (by omega) (Nat.le_of_ble_eq_true rfl) h3 (c_St_isLatin1 hC h5) ?_
    rintro r H1 ⟨rfl, rfl⟩ - - -
    refine sSt_indexOf_1_4 (fun z => absurd z (by decide)) (fun _ => ?_)
    refine sSt_indexOf_1_7 zRf_ref h4 (by omega) (Nat.le_of_ble_eq_true rfl) h3 (c_St_length hC (by omega) h0) ?_
    rintro r H1 ⟨rfl, rfl⟩ - - -
    refine sSt_indexOf_1_17 zRf_ref (by omega) (Nat.le_of_ble_eq_true rfl) (c_L1_indexOf hC (by omega) h6 h7 h8 hc) ?_
    rintro r H1 ⟨rfl, rfl⟩ - - -
    exact sSt_indexOf_1_20 ⟨_, rfl, rfl, rfl⟩
  refine sSt_indexOf_0_0 (by omega) (Nat.le_of_ble_eq_true rfl) h3 inner ?_
  rintro r H1 ⟨rfl, rfl⟩ - - -
  exact sSt_indexOf_0_6 ⟨_, rfl, rfl, rfl⟩
end JT2
