section KI
variable {G : zG} {d : Nat} {L : List Nat} {H : Heap} {p j v m a b o : Nat} {s : List (List Nat)} {t x : List Nat} {A B : zA}
theorem zWf.pl {A : zA} (h : zWf A) : (zPl A).length ≤ 129 := by
  have h1 := h.fl
  have h2 := (zNm_all h.1).2.1
  unfold zPl
  rw [List.length_append, List.length_append, List.length_append]
  have h3 : A.2.2.1.length ≤ 41 := by
    rcases h.2.2.2.2.1 with e | ⟨q, e, e2, _⟩
    · rw [e]; exact Nat.zero_le _
    · rw [e, List.length_cons]; omega
  simp only [List.length_cons, List.length_nil]
  omega
theorem c_Ad_isSamePlace (hC : zCv G) (hd : 2 ≤ d) {L2 : List Nat} (hA : zAd G L H a A) (hB : zAd G L2 H b B) (hwA : zWf A) (hwB : zWf B) : zC G d M_Ad_isSamePlace [.ref a, .ref b] H (zRd H (if zPl A = zPl B then 1 else 0)) := by
  obtain ⟨a1, a2, cs, cp, cq, ck, a3, a4, a5, a6, a7, a8, a9, a10⟩ := hA
  obtain ⟨b1, b2, ds, dp, dq, dk, b3, b4, b5, b6, b7, b8, b9, b10⟩ := hB
  have key := zPl_inj hwA hwB
  refine zC_in [some (.ref a), some (.ref b)] pn_Ad_isSamePlace hC.1.1.1 rfl (Nat.le_of_ble_eq_true rfl) rfl (fun ho => ?_)
  refine sAd_isSamePlace_0 zRf_ref a3 b3 (by omega) (Nat.le_of_ble_eq_true rfl) a7.is (c_St_equals hC.1.1 (by omega) a7 b7) ?_
  rintro r H1 ⟨rfl, rfl⟩ - - -
  by_cases q1 : A.1 = B.1
  · rw [if_pos q1]
    refine sAd_isSamePlace_11 (fun z => absurd z (by decide)) (fun _ => ?_)
    refine sAd_isSamePlace_14 zRf_ref a4 b4 (by omega) (Nat.le_of_ble_eq_true rfl) a8.is (c_St_equals hC.1.1 (by omega) a8 b8) ?_
    rintro r H1 ⟨rfl, rfl⟩ - - -
    by_cases q2 : zFlat A.2.1 = zFlat B.2.1
    · rw [if_pos q2]
      refine sAd_isSamePlace_25 (fun z => absurd z (by decide)) (fun _ => ?_)
      refine sAd_isSamePlace_28 zRf_ref a5 b5 (by omega) (Nat.le_of_ble_eq_true rfl) a9.is (c_St_equals hC.1.1 (by omega) a9 b9) ?_
      rintro r H1 ⟨rfl, rfl⟩ - - -
      by_cases q3 : A.2.2.1 = B.2.2.1
      · rw [if_pos q3, if_pos (key.mpr ⟨q1, zFlat_inj hwA.no hwB.no q2, q3⟩)]
        exact sAd_isSamePlace_39 (fun z => absurd z (by decide)) (fun _ => sAd_isSamePlace_42 rfl ⟨_, rfl, rfl, rfl⟩)
      · rw [if_neg q3, if_neg (fun z => q3 (key.mp z).2.2)]
        exact sAd_isSamePlace_39 (fun _ => sAd_isSamePlace_46 rfl ⟨_, rfl, rfl, rfl⟩) (fun z => absurd rfl z)
    · rw [if_neg q2, if_neg (fun z => q2 (by rw [(key.mp z).2.1]))]
      exact sAd_isSamePlace_25 (fun _ => sAd_isSamePlace_46 rfl ⟨_, rfl, rfl, rfl⟩) (fun z => absurd rfl z)
  · rw [if_neg q1, if_neg (fun z => q1 (key.mp z).1)]
    exact sAd_isSamePlace_11 (fun _ => sAd_isSamePlace_46 rfl ⟨_, rfl, rfl, rfl⟩) (fun z => absurd rfl z)
/-- an Address or null -/
def zOa (G : zG) (L : List Nat) (H : Heap) (w : Value) (o : Option zA) : Prop := (o = none → w = .null) ∧ ∀ b, o = some b → ∃ q, w = .ref q ∧ zAd G L H q b
theorem zOa.st {G : zG} {L L2 S : List Nat} {H H1 : Heap} {w : Value} {o : Option zA} (h : zOa G L H w o) (m : zMo S H H1) (hS : ∀ q ∈ S, q ∈ L ∨ H.size ≤ q) (hL : ∀ q ∈ L2, q ∈ L ∨ H.size ≤ q) : zOa G L2 H1 w o := ⟨h.1, fun b hb => (h.2 b hb).imp (fun q hq => ⟨hq.1, hq.2.st m hS hL⟩)⟩
theorem zOa.rf {G : zG} {L : List Nat} {H : Heap} {w : Value} {o : Option zA} (h : zOa G L H w o) : zRf w := by
  cases o with
  | none => exact Or.inl (h.1 rfl)
  | some b => obtain ⟨q, e, _⟩ := h.2 b rfl; exact Or.inr ⟨q, e⟩
theorem zOa.none {G : zG} {L : List Nat} {H : Heap} : zOa G L H .null none := ⟨fun _ => rfl, fun b h => by cases h⟩
theorem zOa.some {G : zG} {L : List Nat} {H : Heap} {q : Nat} {b : zA} (h : zAd G L H q b) : zOa G L H (.ref q) (some b) := ⟨(fun h => by cases h), (fun b' hb => by cases hb; exact ⟨q, rfl, h⟩)⟩
def zB1 (b : Bool) : Int32 := if b = true then 1 else 0
/-- an Answer at a -/
def zAnO (G : zG) (L : List Nat) (H : Heap) (a : Nat) (α : zAn) : Prop := zFr G a ∧ a ∉ L ∧ zIs G H a 3 ∧ ∃ (p n v c : Nat) (w : Value), zFd G H a 3 0 (.ref p) ∧ zFd G H a 3 1 (.int (nI α.2.1)) ∧ zFd G H a 3 2 (.ref n) ∧ zFd G H a 3 3 (.ref v) ∧ zFd G H a 3 4 w ∧ zFd G H a 3 5 (.int (zB1 α.2.2.2.2.1)) ∧ zFd G H a 3 6 (.ref c) ∧ zAd G L H p α.1 ∧ zTx G L H n α.2.2.1.1 ∧ zTx G L H v α.2.2.1.2 ∧ zOa G L H w α.2.2.2.1 ∧ zTx G L H c α.2.2.2.2.2
theorem zAnO.st {G : zG} {L L2 S : List Nat} {H H1 : Heap} {a : Nat} {α : zAn} (h : zAnO G L H a α) (m : zMo S H H1) (hS : ∀ q ∈ S, q ∈ L ∨ H.size ≤ q) (hL : ∀ q ∈ L2, q ∈ L ∨ H.size ≤ q) : zAnO G L2 H1 a α := by
  obtain ⟨h0, h1, h2, p, n, v, c, w, f0, f1, f2, f3, f4, f5, f6, t0, t1, t2, t3, t4⟩ := h
  have e1 := h2.lt
  have ha : a ∉ S := fun z => (hS a z).elim h1 (fun w => by omega)
  exact ⟨h0, fun z => (hL a z).elim h1 (fun w => by omega), h2.mo m ha, p, n, v, c, w, f0.mo m ha, f1.mo m ha, f2.mo m ha, f3.mo m ha, f4.mo m ha, f5.mo m ha, f6.mo m ha, t0.st m hS hL, t1.st m hS hL, t2.st m hS hL, t3.st m hS hL, t4.st m hS hL⟩
/-- a Cookie at a -/
def zCkO (G : zG) (L : List Nat) (H : Heap) (a : Nat) (c : zCk) : Prop := zFr G a ∧ a ∉ L ∧ zIs G H a 11 ∧ ∃ s n v : Nat, zFd G H a 11 0 (.ref s) ∧ zFd G H a 11 1 (.ref n) ∧ zFd G H a 11 2 (.ref v) ∧ zTx G L H s c.1 ∧ zTx G L H n c.2.1 ∧ zTx G L H v c.2.2
theorem zCkO.st {G : zG} {L L2 S : List Nat} {H H1 : Heap} {a : Nat} {c : zCk} (h : zCkO G L H a c) (m : zMo S H H1) (hS : ∀ q ∈ S, q ∈ L ∨ H.size ≤ q) (hL : ∀ q ∈ L2, q ∈ L ∨ H.size ≤ q) : zCkO G L2 H1 a c := by
  obtain ⟨h0, h1, h2, s, n, v, f0, f1, f2, t0, t1, t2⟩ := h
  have e1 := h2.lt
  have ha : a ∉ S := fun z => (hS a z).elim h1 (fun w => by omega)
  exact ⟨h0, fun z => (hL a z).elim h1 (fun w => by omega), h2.mo m ha, s, n, v, f0.mo m ha, f1.mo m ha, f2.mo m ha, t0.st m hS hL, t1.st m hS hL, t2.st m hS hL⟩
/-- a Kept at a -/
def zKeO (G : zG) (L : List Nat) (H : Heap) (a : Nat) (k : zKe) : Prop := zFr G a ∧ a ∉ L ∧ zIs G H a 12 ∧ ∃ x : Nat, zFd G H a 12 0 (.ref x) ∧ zFd G H a 12 1 (.int (nI k.2)) ∧ zAnO G L H x k.1
theorem zKeO.st {G : zG} {L L2 S : List Nat} {H H1 : Heap} {a : Nat} {k : zKe} (h : zKeO G L H a k) (m : zMo S H H1) (hS : ∀ q ∈ S, q ∈ L ∨ H.size ≤ q) (hL : ∀ q ∈ L2, q ∈ L ∨ H.size ≤ q) : zKeO G L2 H1 a k := by
  obtain ⟨h0, h1, h2, x, f0, f1, t0⟩ := h
  have e1 := h2.lt
  have ha : a ∉ S := fun z => (hS a z).elim h1 (fun w => by omega)
  exact ⟨h0, fun z => (hL a z).elim h1 (fun w => by omega), h2.mo m ha, x, f0.mo m ha, f1.mo m ha, t0.st m hS hL⟩
/-- the Fields at f, while they are read -/
def zFlO (G : zG) (L : List Nat) (H : Heap) (f : Nat) (F : zFe) : Prop := zFr G f ∧ ∃ (n v : Nat) (w : Value), zObj G H f 4 [.int (zB1 F.1.isSome), .int (nI (F.1.getD 0)), .ref n, .ref v, w, .int (zB1 F.2.2.2)] ∧ zTx G L H n F.2.1.1 ∧ zTx G L H v F.2.1.2 ∧ zOa G L H w F.2.2.1
theorem zFlO.st {G : zG} {L L2 S : List Nat} {H H1 : Heap} {f : Nat} {F : zFe} (h : zFlO G L H f F) (m : zMo S H H1) (hf : f ∉ S) (hS : ∀ q ∈ S, q ∈ L ∨ H.size ≤ q) (hL : ∀ q ∈ L2, q ∈ L ∨ H.size ≤ q) : zFlO G L2 H1 f F := by
  obtain ⟨h0, n, v, w, h1, t1, t2, t3⟩ := h
  exact ⟨h0, n, v, w, h1.mo m hf, t1.st m hS hL, t2.st m hS hL, t3.st m hS hL⟩
def zFe0 : zFe := (none, ([], []), none, false)
theorem c_Fl_init (hC : zCv G) (hd : 1 ≤ d) {f : Nat} {b0 b1 b2 b3 b4 b5 : Value} (ho : zObj G H f 4 [b0, b1, b2, b3, b4, b5]) (hf : zFr G f) (hL : zLi G H L) (hfL : f ∈ L) : zC G d M_Fl_init [.ref f] H (zPv fun H1 => zFlO G L H1 f zFe0 ∧ zMo [f] H H1 ∧ zUs 0 0 H H1) := by
  refine zC_in [some (.ref f)] pn_Fl_init hC.1.1.1 rfl (Nat.le_of_ble_eq_true rfl) rfl (fun ho2 => ?_)
  obtain ⟨k0, lt0, tx0⟩ := hC.li (L := L) ho2 hL 7 rfl
  refine sFl_init_0 (by omega) (Nat.le_of_ble_eq_true rfl) ?_
  refine sFl_init_4 ho hf rfl rfl (fun H1 h1 u1 => ?_)
  refine sFl_init_9 h1 hf (fun H2 h2 u2 => ?_)
  refine sFl_init_14 lt0 h2 hf (fun H3 h3 u3 => ?_)
  refine sFl_init_20 lt0 h3 hf (fun H4 h4 u4 => ?_)
  refine sFl_init_26 h4 hf (fun H5 h5 u5 => ?_)
  refine sFl_init_31 h5 hf rfl rfl (fun H6 h6 u6 => ?_)
  have mm : zMo [f] H H6 := ((((u1.mo.up u2 (Or.inl mem1)).up u3 (Or.inl mem1)).up u4 (Or.inl mem1)).up u5 (Or.inl mem1)).up u6 (Or.inl mem1)
  have uu : zUs 0 0 H H6 := ⟨by have := u1.1; have := u2.1; have := u3.1; have := u4.1; have := u5.1; have := u6.1; omega, by have := u1.2.1; have := u2.2.1; have := u3.2.1; have := u4.2.1; have := u5.2.1; have := u6.2.1; omega⟩
  have tt : zTx G L H6 k0 [] := tx0.st mm (fun q z => Or.inl (by rw [List.mem_singleton.mp z]; exact hfL)) (fun q z => Or.inl z)
  exact sFl_init_36 ⟨rfl, ⟨hf, k0, k0, .null, h6, tt, tt, zOa.none⟩, mm, uu⟩
theorem c_Fl_takeAge (hC : zCv G) (hd : 5 ≤ d) {f : Nat} {F : zFe} (h : zFlO G L H f F) (hfL : f ∈ L) (hx : zTx G L H a x) : zC G d M_Fl_takeAge [.ref f, .ref a] H (zPi fun r H1 => r = zB1 (!F.1.isSome && zNu x) ∧ ((!F.1.isSome && zNu x) = true → zFlO G L H1 f (some (zVal x), F.2)) ∧ zMo [f] H H1 ∧ zUs 0 0 H H1) := by
  obtain ⟨h0, n, v, w, h1, t1, t2, t3⟩ := h
  refine zC_in [some (.ref f), some (.ref a)] pn_Fl_takeAge hC.1.1.1 rfl (Nat.le_of_ble_eq_true rfl) rfl (fun ho => ?_)
  cases hs : F.1.isSome with
  | true =>
    rw [hs] at h1
    refine sFl_takeAge_0 (h1.fd rfl) (fun _ => sFl_takeAge_14 rfl ⟨_, rfl, rfl, (fun z => by cases z), zMo.rf, zUs.rf⟩) (fun z => absurd z (by decide))
  | false =>
    rw [hs] at h1
    refine sFl_takeAge_0 (h1.fd rfl) (fun z => absurd rfl z) (fun _ => ?_)
    refine sFl_takeAge_7 zRf_ref (by omega) (Nat.le_of_ble_eq_true rfl) (c_Tx_isNumber hC.1.1 (by omega) hx) ?_
    rintro r H1 ⟨rfl, rfl⟩ - - -
    cases hn : zNu x with
    | false => exact sFl_takeAge_11 (fun z => absurd rfl z) (fun _ => sFl_takeAge_14 rfl ⟨_, rfl, rfl, (fun z => by cases z), zMo.rf, zUs.rf⟩)
    | true =>
      refine sFl_takeAge_11 (fun _ => ?_) (fun z => absurd z (by decide))
      refine sFl_takeAge_16 h1 h0 rfl rfl (fun H2 g1 u1 => ?_)
      have hS : ∀ q ∈ [f], q ∈ L ∨ H1.size ≤ q := fun q z => Or.inl (by rw [List.mem_singleton.mp z]; exact hfL)
      have hx1 := hx.mo u1.mo hS
      refine sFl_takeAge_21 zRf_ref zRf_ref (by omega) (Nat.le_of_ble_eq_true rfl) (c_Tx_number hC.1.1 (by omega) hx1 hn) ?_
      rintro r H3 ⟨rfl, rfl⟩ - - -
      refine sFl_takeAge_26 g1 h0 (fun H4 g2 u2 => ?_)
      have mm : zMo [f] H1 H4 := u1.mo.up u2 (Or.inl mem1)
      refine sFl_takeAge_29 rfl ⟨_, rfl, rfl, fun _ => ⟨h0, n, v, w, g2, t1.mo mm hS, t2.mo mm hS, t3.st mm hS (fun q z => Or.inl z)⟩, mm, u1.us.tr u2.us (c1 := 0) (s1 := 0) (c2 := 0) (s2 := 0) (by omega) (by omega)⟩
theorem c_Fl_takeCookie (hC : zCv G) (hd : 6 ≤ d) {f : Nat} {F : zFe} (h : zFlO G L H f F) (hfL : f ∈ L) (hx : zTx G L H a x) (hL : zLi G H L) (hR : zRm G H 4 (2 * x.length + 8)) : zC G d M_Fl_takeCookie [.ref f, .ref a] H (zPi fun r H1 => (¬ (F.2.1.1 = [] ∧ zTw (zNo 58) x < x.length ∧ zNm (x.take (zTw (zNo 58) x)) = true ∧ zNm (x.drop (zTw (zNo 58) x + 1)) = true) → r = 0) ∧ ((F.2.1.1 = [] ∧ zTw (zNo 58) x < x.length ∧ zNm (x.take (zTw (zNo 58) x)) = true ∧ zNm (x.drop (zTw (zNo 58) x + 1)) = true) → r = 1 ∧ zFlO G L H1 f (F.1, (x.take (zTw (zNo 58) x), x.drop (zTw (zNo 58) x + 1)), F.2.2)) ∧ zMo [f] H H1 ∧ zUs 4 (2 * x.length + 8) H H1) := by
  obtain ⟨h0, n, v, w, h1, t1, t2, t3⟩ := h
  have hl := hx.le
  refine zC_in [some (.ref f), some (.ref a), none, none, none] pn_Fl_takeCookie hC.1.1.1 rfl (Nat.le_of_ble_eq_true rfl) rfl (fun ho => ?_)
  refine sFl_takeCookie_0 (by omega) (Nat.le_of_ble_eq_true rfl) hx.is (c_St_indexOf hC.1.1 (by omega) hx (c := 58) (by decide)) ?_
  rintro r H1 ⟨rfl, rfl⟩ - - -
  refine sFl_takeCookie_6 (h1.fd rfl) (by omega) (Nat.le_of_ble_eq_true rfl) t1.is (c_St_isEmpty hC.1.1 t1) ?_
  rintro r H1 ⟨rfl, rfl⟩ - - -
  rw [zIx_tw]
  by_cases q1 : F.2.1.1 = []
  · rw [if_pos q1]
    refine sFl_takeCookie_14 (fun z => absurd z (by decide)) (fun _ => ?_)
    by_cases q2 : zTw (zNo 58) x < x.length
    · rw [if_pos q2]
      refine sFl_takeCookie_17 (fun _ => ?_) (fun z => absurd (nI_pos' (by omega)) z)
      refine sFl_takeCookie_23 (by omega) (Nat.le_of_ble_eq_true rfl) hx.is (c_St_substring hC.1.1 (by omega) hx (i := 0) (Nat.zero_le _) (by omega) hL (hR.le _ _ (by omega) (by omega))) ?_
      rintro r H2 - ⟨c1, rfl, x1, m1, u1⟩ ho2 hs2 -
      rw [List.drop_zero, Nat.sub_zero] at x1
      rw [Nat.sub_zero] at u1
      have hx2 := hx.ex m1
      refine sFl_takeCookie_29 zRf_ref (by omega) (Nat.le_of_ble_eq_true rfl) hx2.is (by rw [nI_1]; exact c_St_substring1 hC.1.1 (by omega) hx2 q2 (hL.mo hs2) (hR.us u1 _ _ (by omega) (by omega))) ?_
      rintro r H3 - ⟨c2, rfl, x2, m2, u2⟩ ho3 hs3 -
      have x1' := x1.ex m2
      have m3 : zMo [] H1 H3 := m1.ex m2
      have u3 : zUs 4 (2 * x.length + 8) H1 H3 := u1.tr u2 (by omega) (by omega)
      refine sFl_takeCookie_37 zRf_ref zRf_ref (by omega) (Nat.le_of_ble_eq_true rfl) (c_Tx_isName hC.1.1 (by omega) x1') ?_
      rintro r H4 ⟨rfl, rfl⟩ - - -
      cases e1 : zNm (x.take (zTw (zNo 58) x)) with
      | false =>
        refine sFl_takeCookie_43 (fun _ => sFl_takeCookie_54 rfl ⟨_, rfl, fun _ => rfl, fun z => absurd z.2.2.1 (by decide), m3.mono (fun q z => by cases z), u3⟩) (fun z => absurd rfl z)
      | true =>
        refine sFl_takeCookie_43 (fun z => absurd z (by decide)) (fun _ => ?_)
        refine sFl_takeCookie_46 zRf_ref (by omega) (Nat.le_of_ble_eq_true rfl) (c_Tx_isName hC.1.1 (by omega) x2) ?_
        rintro r H5 ⟨rfl, rfl⟩ - - -
        cases e2 : zNm (x.drop (zTw (zNo 58) x + 1)) with
        | false =>
          refine sFl_takeCookie_51 (fun z => absurd rfl z) (fun _ => sFl_takeCookie_54 rfl ⟨_, rfl, fun _ => rfl, fun z => absurd z.2.2.2 (by decide), m3.mono (fun q z => by cases z), u3⟩)
        | true =>
          refine sFl_takeCookie_51 (fun _ => ?_) (fun z => absurd z (by decide))
          refine sFl_takeCookie_56 zRf_ref (h1.ex m3) h0 (fun H6 g1 v1 => ?_)
          refine sFl_takeCookie_61 zRf_ref g1 h0 (fun H7 g2 v2 => ?_)
          have mm : zMo [f] H5 H7 := v1.mo.up v2 (Or.inl mem1)
          have hS : ∀ q ∈ [f], q ∈ L ∨ H5.size ≤ q := fun q z => Or.inl (by rw [List.mem_singleton.mp z]; exact hfL)
          have uu : zUs 0 0 H5 H7 := v1.us.tr v2.us (c1 := 0) (s1 := 0) (c2 := 0) (s2 := 0) (by omega) (by omega)
          refine sFl_takeCookie_67 rfl ⟨_, rfl, fun z => absurd ⟨q1, q2, rfl, rfl⟩ z, fun _ => ⟨rfl, h0, c1, c2, w, g2, x1'.mo mm hS, x2.mo mm hS, (t3.st m3 (fun q z => by cases z) (fun q z => Or.inl z)).st mm hS (fun q z => Or.inl z)⟩, m3.tr mm (fun q z => by cases z) (fun q z => Or.inl z), u3.tr uu (by omega) (by omega)⟩
    · rw [if_neg q2]
      refine sFl_takeCookie_17 (fun z => absurd z (by decide)) (fun _ => sFl_takeCookie_21 rfl ⟨_, rfl, fun _ => rfl, fun z => absurd z.2.1 q2, zMo.rf, zUs.rf⟩)
  · rw [if_neg q1]
    exact sFl_takeCookie_14 (fun _ => sFl_takeCookie_21 rfl ⟨_, rfl, fun _ => rfl, fun z => absurd z.1 q1, zMo.rf, zUs.rf⟩) (fun z => absurd rfl z)
end KI
