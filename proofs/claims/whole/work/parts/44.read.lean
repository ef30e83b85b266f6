/-- an Address at a -/
def zAd (G : zG) (L : List Nat) (H : Heap) (a : Nat) (A : zA) : Prop := a ∉ L ∧ zIs G H a 2 ∧ ∃ s p q m : Nat, zFd G H a 2 0 (.ref s) ∧ zFd G H a 2 1 (.ref p) ∧ zFd G H a 2 2 (.ref q) ∧ zFd G H a 2 3 (.ref m) ∧ zTx G L H s A.1 ∧ zTx G L H p (zFlat A.2.1) ∧ zTx G L H q A.2.2.1 ∧ zTx G L H m A.2.2.2
theorem zAd.st {G : zG} {L L2 S : List Nat} {H H1 : Heap} {a : Nat} {A : zA} (h : zAd G L H a A) (m : zMo S H H1) (hS : ∀ q ∈ S, q ∈ L ∨ H.size ≤ q) (hL : ∀ q ∈ L2, q ∈ L ∨ H.size ≤ q) : zAd G L2 H1 a A := by
  obtain ⟨h1, h2, s, p, q, k, h3, h4, h5, h6, h7, h8, h9, h10⟩ := h
  have e1 := h2.lt
  have ha : a ∉ S := fun z => (hS a z).elim h1 (fun w => by omega)
  exact ⟨fun z => (hL a z).elim h1 (fun w => by omega), h2.mo m ha, s, p, q, k, h3.mo m ha, h4.mo m ha, h5.mo m ha, h6.mo m ha, h7.st m hS hL, h8.st m hS hL, h9.st m hS hL, h10.st m hS hL⟩
theorem zAd.ex {G : zG} {L : List Nat} {H H1 : Heap} {a : Nat} {A : zA} (h : zAd G L H a A) (m : zMo [] H H1) : zAd G L H1 a A := h.st m (fun q z => by cases z) (fun q z => Or.inl z)
theorem zAd.mo {G : zG} {L S : List Nat} {H H1 : Heap} {a : Nat} {A : zA} (h : zAd G L H a A) (m : zMo S H H1) (hS : ∀ q ∈ S, q ∈ L ∨ H.size ≤ q) : zAd G L H1 a A := h.st m hS (fun q z => Or.inl z)
theorem zAd.lt {G : zG} {L : List Nat} {H : Heap} {a : Nat} {A : zA} (h : zAd G L H a A) : a < H.size := h.2.1.lt
theorem zFlat_cons {x : List Nat} {l : List (List Nat)} : zFlat (x :: l) = 47 :: x ++ zFlat l := by simp [zFlat]
theorem zFlat_len : ∀ {s : List (List Nat)} {k : Nat}, (∀ x ∈ s, x.length ≤ k) → (zFlat s).length ≤ s.length * (k + 1) := by
  intro s k
  induction s with
  | nil => intro _; exact Nat.zero_le _
  | cons x l ih =>
    intro h
    have h1 := h x List.mem_cons_self
    have h2 := ih (fun y hy => h y (List.mem_cons_of_mem _ hy))
    rw [zFlat_cons, List.length_append, List.length_cons, List.length_cons, Nat.succ_mul]
    omega
theorem zFlat_count : ∀ {s : List (List Nat)}, (∀ x ∈ s, 47 ∉ x) → (zFlat s).count 47 = s.length := by
  intro s
  induction s with
  | nil => intro _; rfl
  | cons x l ih =>
    intro h
    rw [zFlat_cons, List.count_append, ih (fun y hy => h y (List.mem_cons_of_mem _ hy)), List.count_cons_self, List.count_eq_zero_of_not_mem (h x List.mem_cons_self), List.length_cons]
    omega
theorem zSg_no {x : List Nat} (h : x.all zSg = true) {c : Nat} (hc : zSg c = false) : c ∉ x := fun z => by
  have := List.all_eq_true.mp h c z
  rw [hc] at this
  cases this
theorem zWf.no {A : zA} (h : zWf A) : ∀ x ∈ A.2.1, 47 ∉ x := fun x hx => zSg_no (h.2.2.2.1 x hx).2.1 (by decide)
theorem zWf.fl {A : zA} (h : zWf A) : (zFlat A.2.1).length ≤ 78 := by
  have h1 := zFlat_len (s := A.2.1) (k := 12) (fun x hx => (h.2.2.2.1 x hx).1)
  have h2 := h.2.2.1
  have : A.2.1.length * (12 + 1) ≤ 6 * 13 := Nat.mul_le_mul_right _ h2
  omega
theorem tw_take {p : Nat → Bool} {t : List Nat} {k : Nat} : zTw p (t.take k) = min (zTw p t) k := by
  have h1 := tw_le p t
  apply tw_eq
  · rw [List.length_take]; omega
  · intro i hi
    rw [getD_take (by omega)]
    exact tw_at p t i (by omega)
  · intro hi
    rw [List.length_take] at hi
    rw [getD_take (by omega)]
    have : min (zTw p t) k = zTw p t := by omega
    rw [this] at hi ⊢
    exact tw_end p t (by omega)
theorem zHd_eq {t : List Nat} : zHd t = t.take (min (zTw (zNo 63) t) (zTw (zNo 35) t)) := by
  unfold zHd zHq
  rw [tw_take, List.take_take]
  congr 1
  omega
theorem zQy_eq {t : List Nat} : zQy t = (t.drop (min (zTw (zNo 63) t) (zTw (zNo 35) t))).take (zTw (zNo 35) t - min (zTw (zNo 63) t) (zTw (zNo 35) t)) := by
  unfold zQy zHq
  rw [tw_take, List.drop_take]
theorem take_pre {u t : List Nat} : t.take u.length = u ↔ u <+: t := by
  constructor
  · intro h
    exact ⟨t.drop u.length, by conv => rhs; rw [← List.take_append_drop u.length t, h]⟩
  · rintro ⟨r, rfl⟩
    exact List.take_left
theorem zRead_3 {t : List Nat} {B : zA} (h1 : (zQok (zQy t) && zMok (zMk t)) = true) (h2 : (zHd t).isEmpty = false) : zRead t B = if (zHd t).take 2 = [47, 47] then (if zNm (((zHd t).drop 2).take (zTw (zNo 47) ((zHd t).drop 2))) = true then (zPath [] (((zHd t).drop 2).drop (zTw (zNo 47) ((zHd t).drop 2) + 1))).map (fun p => (((zHd t).drop 2).take (zTw (zNo 47) ((zHd t).drop 2)), p, zQy t, zMk t)) else none) else if (zHd t).take 1 = [47] then (zPath [] ((zHd t).drop 1)).map (fun p => (B.1, p, zQy t, zMk t)) else (zPath B.2.1.dropLast (zHd t)).map (fun p => (B.1, p, zQy t, zMk t)) := by
  unfold zRead
  rw [h1, h2]
  rfl
section KR
variable {G : zG} {d : Nat} {L : List Nat} {H : Heap} {p j v m a b : Nat} {s : List (List Nat)} {t x : List Nat} {A B : zA}
theorem c_Ad_init (hC : zCv G) (hd : 1 ≤ d) {b0 b1 b2 b3 : Value} {c1 c2 c3 c4 : Nat} (ho : zObj G H a 2 [b0, b1, b2, b3]) (ha : zFr G a) : zC G d M_Ad_init [.ref a, .ref c1, .ref c2, .ref c3, .ref c4] H (zPv fun H1 => zObj G H1 a 2 [.ref c1, .ref c2, .ref c3, .ref c4] ∧ zMo [a] H H1 ∧ zUs 0 0 H H1) := by
  refine zC_in [some (.ref a), some (.ref c1), some (.ref c2), some (.ref c3), some (.ref c4)] pn_Ad_init hC.1.1.1 rfl (Nat.le_of_ble_eq_true rfl) rfl (fun ho2 => ?_)
  refine sAd_init_0 hd (Nat.le_of_ble_eq_true rfl) ?_
  refine sAd_init_4 zRf_ref ho ha (fun H1 h1 u1 => ?_)
  refine sAd_init_9 zRf_ref h1 ha (fun H2 h2 u2 => ?_)
  refine sAd_init_14 zRf_ref h2 ha (fun H3 h3 u3 => ?_)
  refine sAd_init_19 zRf_ref h3 ha (fun H4 h4 u4 => ?_)
  exact sAd_init_25 ⟨rfl, h4, ((u1.mo.up u2 (Or.inl mem1)).up u3 (Or.inl mem1)).up u4 (Or.inl mem1), ((u1.us.tr u2.us (c1 := 0) (s1 := 0) (c2 := 0) (s2 := 0) (c := 0) (s := 0) (by omega) (by omega)).tr u3.us (c2 := 0) (s2 := 0) (c := 0) (s := 0) (by omega) (by omega)).tr u4.us (c2 := 0) (s2 := 0) (by omega) (by omega)⟩
theorem c_Ad_place (hC : zCs G) (hd : 4 ≤ d) (h : zTx G L H a t) {c : Nat} (hc : c < 256) : zC G d M_Ad_placeOrLength [.ref a, .int (nI c)] H (zRd H (nI (zTw (zNo c) t))) := by
  have hl := h.le
  have htw := tw_le (zNo c) t
  refine zC_in [some (.ref a), some (.int (nI c)), none] pn_Ad_placeOrLength hC.1 rfl (Nat.le_of_ble_eq_true rfl) rfl (fun ho => ?_)
  refine sAd_placeOrLength_0 (by omega) (Nat.le_of_ble_eq_true rfl) h.is (c_St_indexOf hC (by omega) h hc) ?_
  rintro r H1 ⟨rfl, rfl⟩ - - -
  rw [zIx_tw]
  by_cases q : zTw (zNo c) t < t.length
  · rw [if_pos q]
    exact sAd_placeOrLength_5 (fun _ => sAd_placeOrLength_17 ⟨_, rfl, rfl, rfl⟩) (fun z => absurd (nI_pos' (by omega)) z)
  · rw [if_neg q]
    refine sAd_placeOrLength_5 (fun z => absurd z (by decide)) (fun _ => ?_)
    refine sAd_placeOrLength_10 (by omega) (Nat.le_of_ble_eq_true rfl) h.is (c_St_length hC (by omega) h) ?_
    rintro r H2 ⟨rfl, rfl⟩ - - -
    refine sAd_placeOrLength_14 ⟨_, rfl, ?_, rfl⟩
    rw [show zTw (zNo c) t = t.length by omega]
theorem c_Ad_isQuery (hC : zCv G) (hd : 6 ≤ d) (h : zTx G L H a t) (hL : zLi G H L) (hR : zRm G H 2 (t.length + 4)) : zC G d M_Ad_isQuery [.ref a] H (zPi fun r H1 => r = (if zQok t = true then 1 else 0) ∧ zMo [] H H1 ∧ zUs 2 (t.length + 4) H H1) := by
  have hl := h.le
  refine zC_in [some (.ref a)] pn_Ad_isQuery hC.1.1.1 rfl (Nat.le_of_ble_eq_true rfl) rfl (fun ho => ?_)
  refine sAd_isQuery_0 (by omega) (Nat.le_of_ble_eq_true rfl) h.is (c_St_isEmpty hC.1.1 h) ?_
  rintro r H1 ⟨rfl, rfl⟩ - - -
  by_cases q : t = []
  · rw [if_pos q]
    refine sAd_isQuery_4 (fun _ => sAd_isQuery_29 rfl ⟨_, rfl, ?_, zMo.rf, zUs.rf⟩) (fun z => absurd z (by decide))
    rw [q]; rfl
  · rw [if_neg q]
    have hq : zQok t = (Nat.ble t.length 41 && (t.drop 1).all zQc) := by
      unfold zQok
      cases t with
      | nil => exact absurd rfl q
      | cons c l => rfl
    have hpos : 1 ≤ t.length := List.length_pos_iff.mpr q
    refine sAd_isQuery_4 (fun z => absurd rfl z) (fun _ => ?_)
    refine sAd_isQuery_7 (by omega) (Nat.le_of_ble_eq_true rfl) h.is (c_St_length hC.1.1 (by omega) h) ?_
    rintro r H2 ⟨rfl, rfl⟩ - - -
    refine sAd_isQuery_11 (fun e => sAd_isQuery_33 rfl ⟨_, rfl, ?_, zMo.rf, zUs.rf⟩) (fun e => ?_)
    · have := (nI_ltI (a := 41) (by decide) (by omega)).mp e
      have hf : Nat.ble t.length 41 = false := (Bool.not_eq_true _).mp (fun z => by have := Nat.le_of_ble_eq_true z; omega)
      rw [hq, hf]; rfl
    · have hle : t.length ≤ 41 := Nat.not_lt.mp (fun z => e ((nI_ltI (a := 41) (by decide) (by omega)).mpr z))
      refine sAd_isQuery_16 (by omega) (Nat.le_of_ble_eq_true rfl) h.is (c_St_substring1 hC.1.1 (by omega) h (i := 1) hpos hL (hR.le _ _ (by omega) (by omega))) ?_
      rintro r H3 - ⟨c, rfl, h3, m3, u3⟩ ho3 hs3 -
      obtain ⟨k1, lt1, tx1⟩ := hC.li (L := L) ho3 (hL.mo hs3) 3 rfl
      refine sAd_isQuery_21 zRf_ref lt1 (by omega) (Nat.le_of_ble_eq_true rfl) (c_Tx_hasOnly hC.1.1 (by omega) h3 tx1) ?_
      rintro r H4 ⟨rfl, rfl⟩ - - -
      have eall : (t.drop 1).all (zHo [46, 45, 95, 61, 38, 43]) = (t.drop 1).all zQc := by
        congr 1
        funext c
        exact zHo_qc c
      have hf : Nat.ble t.length 41 = true := Nat.ble_eq_true_of_le hle
      rw [eall, hq, hf, Bool.true_and]
      cases (t.drop 1).all zQc with
      | true => exact sAd_isQuery_26 (fun z => absurd z (by decide)) (fun _ => sAd_isQuery_29 rfl ⟨_, rfl, rfl, m3, u3.le (by omega) (by omega)⟩)
      | false => exact sAd_isQuery_26 (fun _ => sAd_isQuery_33 rfl ⟨_, rfl, rfl, m3, u3.le (by omega) (by omega)⟩) (fun z => absurd rfl z)
theorem c_Ad_segments (hC : zCv G) (hd : 4 ≤ d) (h : zAd G L H a A) (hw : zWf A) : zC G d M_Ad_segments [.ref a] H (zRd H (nI A.2.1.length)) := by
  obtain ⟨h1, h2, s, p, q, k, h3, h4, h5, h6, h7, h8, h9, h10⟩ := h
  have hl := h8.le
  have hcnt := zFlat_count hw.no
  refine zC_in [some (.ref a), none, none] pn_Ad_segments hC.1.1.1 rfl (Nat.le_of_ble_eq_true rfl) rfl (fun ho => ?_)
  refine sAd_segments_0 ?_
  have main : ∀ (k i : Nat), i + k = (zFlat A.2.1).length → zW G d M_Ad_segments 4 [some (.ref a), some (.int (nI (((zFlat A.2.1).take i).count 47))), some (.int (nI i))] [] H (zRd H (nI A.2.1.length)) := by
    intro k
    induction k with
    | zero =>
      intro i hi
      refine sAd_segments_4 h4 (by omega) (Nat.le_of_ble_eq_true rfl) h8.is (c_St_length hC.1.1 (by omega) h8) ?_
      rintro r H1 ⟨rfl, rfl⟩ - - -
      refine sAd_segments_12 (fun _ => ?_) (fun z => absurd (nI_le (by omega) (by omega)) z)
      refine sAd_segments_37 ⟨_, rfl, ?_, rfl⟩
      rw [List.take_of_length_le (by omega), hcnt]
    | succ k ih =>
      intro i hi
      refine sAd_segments_4 h4 (by omega) (Nat.le_of_ble_eq_true rfl) h8.is (c_St_length hC.1.1 (by omega) h8) ?_
      rintro r H1 ⟨rfl, rfl⟩ - - -
      refine sAd_segments_12 (fun z => absurd z (nI_ge (by omega) (by omega))) (fun _ => ?_)
      refine sAd_segments_15 h4 (by omega) (Nat.le_of_ble_eq_true rfl) h8.is (c_St_charAt hC.1.1 (by omega) h8 (i := i) (by omega)) ?_
      rintro r H2 ⟨rfl, rfl⟩ - - -
      have hb := zTx_get h8.b i
      have e1 : ((zFlat A.2.1).take (i + 1)).count 47 = ((zFlat A.2.1).take i).count 47 + if (zFlat A.2.1).getD i 0 = 47 then 1 else 0 := by
        rw [take_s (by omega), List.count_append, List.count_singleton]
        by_cases z : (zFlat A.2.1).getD i 0 = 47 <;> simp [z]
      refine sAd_segments_23 (fun z => ?_) (fun z => ?_)
      · refine sAd_segments_31 ?_
        rw [nI_1]
        have := ih (i + 1) (by omega)
        rw [e1, if_neg (fun w => z (by rw [w]; rfl))] at this
        exact this
      · refine sAd_segments_28 ?_
        rw [nI_1, nI_1]
        have := ih (i + 1) (by omega)
        rw [e1, if_pos ((nI_eq (b := 47) (by omega) (by decide)).mp z)] at this
        exact this
  exact main (zFlat A.2.1).length 0 (by omega)
theorem c_Pt_init (hC : zCv G) (hd : 3 ≤ d) {b0 b1 : Value} (ho : zObj G H p 9 [b0, b1]) (hp : zFr G p) (hR : zRm G H 2 20) : zC G d M_Pt_init [.ref p] H (zPv fun H1 => ∃ j v, zPt G H1 p j v 16 [] ∧ H.size ≤ j ∧ H.size ≤ v ∧ zMo [p] H H1 ∧ zUs 2 20 H H1) := by
  refine zC_in [some (.ref p)] pn_Pt_init hC.1.1.1 rfl (Nat.le_of_ble_eq_true rfl) rfl (fun ho2 => ?_)
  refine sPt_init_0 (by omega) (Nat.le_of_ble_eq_true rfl) ?_
  refine sPt_init_4 zRf_ref (by have := hR.1; omega) (by have := hR.2; omega) (fun H1 h1 n1 => ?_)
  have e1 : H1.size = H.size + 1 := n1.1
  refine sPt_init_8 (by omega) (Nat.le_of_ble_eq_true rfl) (c_Sb_init (b2 := .null) hC.1.1 (by omega) h1 (zFr_new ho2) (hR.us n1.us 1 16 (by omega) (by omega))) ?_
  rintro H2 ⟨g1, g2, g3⟩ ho3 - -
  have hpl := ho.lt
  have hO := (ho.ex n1.mo).mo g2 (fun z => by have := List.mem_singleton.mp z; omega)
  refine sPt_init_12 zRf_ref hO hp (fun H3 h3 u3 => ?_)
  refine sPt_init_15 h3 hp (fun H4 h4 u4 => ?_)
  have hm : zMo [p] H H4 := ((n1.mo.tr g2 (S := [p]) (fun q z => by cases z) (fun q z => Or.inr (by rw [List.mem_singleton.mp z]; exact Nat.le_refl _))).up u3 (Or.inl mem1)).up u4 (Or.inl mem1)
  refine sPt_init_20 ⟨rfl, H.size, H1.size, ⟨by omega, by omega, hp, h4, (g1.mo u3.mo (by simp; omega) (by simp; omega)).mo u4.mo (by simp; omega) (by simp; omega), (fun x hx => by cases hx), Nat.le_refl _⟩, Nat.le_refl _, (by omega), hm, ((n1.us.tr g3 (c := 2) (s := 20) (by omega) (by omega)).tr u3.us (c2 := 0) (s2 := 0) (c := 2) (s := 20) (by omega) (by omega)).tr u4.us (c2 := 0) (s2 := 0) (by omega) (by omega)⟩
theorem c_Pt_startBeside (hC : zCv G) (hd : 7 ≤ d) (h : zPt G H p j v 16 []) (hA : zAd G [p, j, v] H a A) (hw : zWf A) (hR : zRm G H 2 200) : zC G d M_Pt_startBeside [.ref p, .ref a] H (zPv fun H1 => ∃ v' m', zPt G H1 p j v' m' A.2.1.dropLast ∧ (v' = v ∨ H.size ≤ v') ∧ 16 ≤ m' ∧ m' ≤ 156 ∧ zMo [p, j, v] H H1 ∧ zUs 1 (2 * (m' - 16)) H H1) := by
  have h0 := h
  obtain ⟨h1, h2, h3, h4, h5, h6, h16⟩ := h
  have hfl := hw.fl
  obtain ⟨a1, a2, cs, cp, cq, ck, a3, a4, a5, a6, a7, a8, a9, a10⟩ := id hA
  have hjl := h5.lt
  have hpl := h4.lt
  refine zC_in [some (.ref p), some (.ref a)] pn_Pt_startBeside hC.1.1.1 rfl (Nat.le_of_ble_eq_true rfl) rfl (fun ho => ?_)
  have tx : zTx G [j, v] H cp (zFlat A.2.1) := a8.li (fun q z => by simp only [List.mem_cons, List.not_mem_nil, or_false] at z ⊢; omega)
  refine sPt_startBeside_0 zRf_ref (h4.fd rfl) a4 (by omega) (Nat.le_of_ble_eq_true rfl) h5.is (c_Sb_append1 hC.1.1 (by omega) h5 tx (by simp [zFlat]; simp [zFlat] at hfl; omega) (by simp [zFlat]; simp [zFlat] at hfl; exact hR.le _ _ (by omega) (by omega))) ?_
  rintro r H1 - ⟨rfl, v1, m1, g1, g2, g3, g4, g5, g6⟩ ho1 hs1 -
  have e0 : (zFlat ([] : List (List Nat))).length = 0 := rfl
  rw [e0] at g4
  have e1 : zFlat ([] : List (List Nat)) ++ zFlat A.2.1 = zFlat A.2.1 := rfl
  rw [e1] at g1
  have hA1 : zAd G [p, j, v1] H1 a A := hA.st g5 (fun q z => by simp only [List.mem_cons, List.not_mem_nil, or_false] at z ⊢; omega) (fun q z => by simp only [List.mem_cons, List.not_mem_nil, or_false] at z ⊢; omega)
  refine sPt_startBeside_11 rfl zRf_ref (by omega) (Nat.le_of_ble_eq_true rfl) hA1.2.1 (c_Ad_segments hC (by omega) hA1 hw) ?_
  rintro r H2 ⟨rfl, rfl⟩ - - -
  have h4' := h4.mo g5 (by simp only [List.mem_cons, List.not_mem_nil, or_false]; omega)
  refine sPt_startBeside_17 h4' h3 (fun H3 f1 f2 => ?_)
  have hP : zPt G H3 p j v1 m1 A.2.1 := ⟨h1, by omega, h3, f1, g1.mo f2.mo (by simp only [List.mem_cons, List.not_mem_nil, or_false]; omega) (by simp only [List.mem_cons, List.not_mem_nil, or_false]; omega), hw.no, by omega⟩
  refine sPt_startBeside_20 (by omega) (Nat.le_of_ble_eq_true rfl) f1.is (c_Pt_pop hC (by omega) hP) ?_
  rintro H4 ⟨k1, k2, k3⟩ - - -
  refine sPt_startBeside_24 ⟨rfl, v1, m1, k1, g3, (by omega), (by omega), (g5.tr f2.mo (S := [p, j, v]) (fun q z => by simp only [List.mem_cons, List.not_mem_nil, or_false] at z ⊢; omega) (fun q z => by simp only [List.mem_cons, List.not_mem_nil, or_false] at z ⊢; omega)).tr k2 (fun q z => by simp only [List.mem_cons, List.not_mem_nil, or_false] at z ⊢; omega) (fun q z => by simp only [List.mem_cons, List.not_mem_nil, or_false] at z ⊢; omega), (g6.tr f2.us (c := 1) (s := 2 * (m1 - 16)) (c2 := 0) (s2 := 0) (by omega) (by omega)).tr k3 (by omega) (by omega)⟩
/-- the ADDRESS of a REFERENCE -/
theorem c_Ad_read (hC : zCv G) (hd : 10 ≤ d) (h : zTx G L H a t) (hB : zAd G L H b B) (hw : zWf B) (hL : zLi G H L) (ht : t.length ≤ 2000) (hR : zRm G H (4 * t.length + 300) (40 * t.length + 4000)) :
    zC G d M_Ad_read [.ref a, .ref b] H (zPr fun r H1 => (zRead t B = none → r = .null) ∧ (∀ A, zRead t B = some A → ∃ c, r = .ref c ∧ zAd G L H1 c A) ∧ zMo [] H H1 ∧ zUs (4 * t.length + 60) (24 * t.length + 1200) H H1) := by
  have hfl := hw.fl
  have htw := tw_le (zNo 35) t
  have htw2 := tw_le (zNo 63) t
  obtain ⟨a1, a2, cs, cp, cq, ck, a3, a4, a5, a6, a7, a8, a9, a10⟩ := id hB
  refine zC_in [some (.ref a), some (.ref b), none, none, none, none, none, none, none, none, none, none] pn_Ad_read hC.1.1.1 rfl (Nat.le_of_ble_eq_true rfl) rfl (fun ho => ?_)
  refine sAd_read_0 zRf_ref (by omega) (Nat.le_of_ble_eq_true rfl) (c_Ad_place hC.1.1 (by omega) h (c := 35) (by decide)) ?_
  rintro r H1 ⟨rfl, rfl⟩ - - -
  refine sAd_read_6 zRf_ref (by omega) (Nat.le_of_ble_eq_true rfl) (c_Ad_place hC.1.1 (by omega) h (c := 63) (by decide)) ?_
  rintro r H1 ⟨rfl, rfl⟩ - - -
  refine sAd_read_13 (by omega) (Nat.le_of_ble_eq_true rfl) (c_Ma_min hC.1.1 _ _) ?_
  rintro r H1 ⟨rfl, rfl⟩ - - -
  have emin : (if nI (zTw (zNo 35) t) < nI (zTw (zNo 63) t) then nI (zTw (zNo 35) t) else nI (zTw (zNo 63) t)) = nI (min (zTw (zNo 63) t) (zTw (zNo 35) t)) := by
    by_cases q : zTw (zNo 35) t < zTw (zNo 63) t
    · rw [if_pos (nI_lt q (by omega))]; congr 1; omega
    · rw [if_neg (nI_nlt (by omega) (by omega))]; congr 1; omega
  rw [emin]
  refine sAd_read_17 (by omega) (Nat.le_of_ble_eq_true rfl) h.is (c_St_substring hC.1.1 (by omega) h (i := 0) (Nat.zero_le _) (show min (zTw (zNo 63) t) (zTw (zNo 35) t) ≤ t.length by omega) hL (hR.le _ _ (by omega) (by omega))) ?_
  rintro r H2 - ⟨c4, rfl, h4, mo2, us2⟩ ho2 hs2 -
  rw [List.drop_zero, Nat.sub_zero, ← zHd_eq] at h4
  rw [Nat.sub_zero] at us2
  have hL2 := hL.mo hs2
  have h' := h.ex mo2
  refine sAd_read_24 zRf_ref (by omega) (Nat.le_of_ble_eq_true rfl) h'.is (c_St_substring hC.1.1 (by omega) h' (show min (zTw (zNo 63) t) (zTw (zNo 35) t) ≤ zTw (zNo 35) t by omega) htw hL2 (hR.us us2 _ _ (by omega) (by omega))) ?_
  rintro r H3 - ⟨c5, rfl, h5, mo3, us3⟩ ho3 hs3 -
  rw [← zQy_eq] at h5
  have hL3 := hL2.mo hs3
  have h'' := h'.ex mo3
  have usA := us2.tr us3 (c := 4) (s := 2 * t.length + 8) (by omega) (by omega)
  refine sAd_read_32 zRf_ref (by omega) (Nat.le_of_ble_eq_true rfl) h''.is (c_St_substring1 hC.1.1 (by omega) h'' htw hL3 (hR.us usA _ _ (by omega) (by omega))) ?_
  rintro r H4 - ⟨c6, rfl, h6, mo4, us4⟩ ho4 hs4 -
  have hL4 := hL3.mo hs4
  have usB := usA.tr us4 (c := 6) (s := 3 * t.length + 12) (by omega) (by omega)
  have h4' := (h4.ex mo3).ex mo4
  have h5' := h5.ex mo4
  have e4 : (zHd t).length ≤ t.length := by rw [zHd_eq, List.length_take]; omega
  have e5 : (zQy t).length ≤ t.length := by rw [zQy_eq, List.length_take, List.length_drop]; omega
  have e6 : (zMk t).length ≤ t.length := by unfold zMk; rw [List.length_drop]; omega
  have moB : zMo [] H1 H4 := (mo2.ex mo3).ex mo4
  refine sAd_read_39 zRf_ref zRf_ref (by omega) (Nat.le_of_ble_eq_true rfl) (c_Ad_isQuery hC (by omega) h5' hL4 (hR.us usB _ _ (by omega) (by omega))) ?_
  rintro r H5 ⟨rfl, mo5, us5⟩ ho5 hs5 -
  have hL5 := hL4.mo hs5
  have usC := usB.tr us5 (c := 8) (s := 4 * t.length + 16) (by omega) (by omega)
  have moC := moB.ex mo5
  have none1 : ∀ (H9 : Heap) (lv9 : List (Option Value)), zRead t B = none → zMo [] H1 H9 → zUs (4 * t.length + 60) (24 * t.length + 1200) H1 H9 → zPr (fun r H1' => (zRead t B = none → r = .null) ∧ (∀ A, zRead t B = some A → ∃ c, r = .ref c ∧ zAd G L H1' c A) ∧ zMo [] H1 H1' ∧ zUs (4 * t.length + 60) (24 * t.length + 1200) H1 H1') (some .null) H9 := by
    intro H9 _ hn m9 u9
    exact ⟨_, rfl, zRf_null, fun _ => rfl, fun A hA => (by rw [hn] at hA; cases hA), m9, u9⟩
  refine sAd_read_46 (fun e => sAd_read_69 (none1 H5 [] ?_ moC (usC.le (by omega) (by omega)))) (fun e => ?_)
  · unfold zRead
    rw [if00.mp e]
    rfl
  have hqok := if01.mp e
  have h6' : zTx G L H5 c6 (zMk t) := h6.ex mo5
  have h4'' := h4'.ex mo5
  have h5'' := h5'.ex mo5
  /- behind the tests of query and mark -/
  have part2 : ∀ H6 : Heap, zMo [] H5 H6 → zUs 2 (t.length + 4) H5 H6 → zOk G H6 → zMok (zMk t) = true → zW G d M_Ad_read 71 [some (.ref a), some (.ref b), some (.int (nI (zTw (zNo 35) t))), some (.int (nI (min (zTw (zNo 63) t) (zTw (zNo 35) t)))), some (.ref c4), some (.ref c5), some (.ref c6), none, none, none, none, none] [] H6 (zPr fun r H1' => (zRead t B = none → r = .null) ∧ (∀ A, zRead t B = some A → ∃ c, r = .ref c ∧ zAd G L H1' c A) ∧ zMo [] H1 H1' ∧ zUs (4 * t.length + 60) (24 * t.length + 1200) H1 H1') := by
    intro H6 mo6 us6 ho6 hmok
    have hL6 := hL5.mo mo6.1
    have usD := usC.tr us6 (c := 10) (s := 5 * t.length + 20) (by omega) (by omega)
    have moD := moC.ex mo6
    have h6D := h6'.ex mo6
    have h4D := h4''.ex mo6
    have h5D := h5''.ex mo6
    have hBD : zAd G L H6 b B := hB.ex moD
    have hlen0 := h4D.le
    refine sAd_read_71 (by omega) (Nat.le_of_ble_eq_true rfl) h4D.is (c_St_isEmpty hC.1.1 h4D) ?_
    rintro r H7 ⟨rfl, rfl⟩ - - -
    obtain ⟨b1, b2, ds, dp, dq, dk, b3, b4, b5, b6, b7, b8, b9, b10⟩ := id hBD
    by_cases q : zHd t = []
    · rw [if_pos q]
      refine sAd_read_76 (fun z => absurd z (by decide)) (fun _ => ?_)
      have hrd : zRead t B = some (B.1, B.2.1, if (zQy t).isEmpty then B.2.2.1 else zQy t, zMk t) := by
        unfold zRead
        rw [hqok, hmok, q]
        rfl
      refine sAd_read_79 (hR.us usD 1 4 (by omega) (by omega)).1 (hR.us usD 1 4 (by omega) (by omega)).2 (fun H8 h8 n8 => ?_)
      have hq8 := h5D.ex n8.mo
      refine sAd_read_82 rfl zRf_ref zRf_ref (b3.ex n8.mo) (b4.ex n8.mo) (by omega) (Nat.le_of_ble_eq_true rfl) hq8.is (c_St_isEmpty hC.1.1 hq8) ?_
      rintro r H9 ⟨rfl, rfl⟩ - - -
      have usE := usD.tr n8.us (c := 11) (s := 5 * t.length + 24) (by omega) (by omega)
      have moE := moD.ex n8.mo
      have fin : ∀ (H10 : Heap) (k : Nat) (tq : List Nat), zTx G L H7 k tq → zRead t B = some (B.1, B.2.1, tq, zMk t) → zObj G H10 H7.size 2 [.ref ds, .ref dp, .ref k, .ref c6] → zMo [H7.size] H9 H10 → zUs 0 0 H9 H10 → zPr (fun r H1' => (zRead t B = none → r = .null) ∧ (∀ A, zRead t B = some A → ∃ c, r = .ref c ∧ zAd G L H1' c A) ∧ zMo [] H1 H1' ∧ zUs (4 * t.length + 60) (24 * t.length + 1200) H1 H1') (some (.ref H7.size)) H10 := by
        intro H10 k tq hk hr hO m10 u10
        have mm : zMo [] H7 H10 := n8.mo.tr m10 (fun q z => by cases z) (fun q z => Or.inr (by rw [List.mem_singleton.mp z]; exact Nat.le_refl _))
        refine ⟨_, rfl, zRf_ref, fun z => (by rw [hr] at z; cases z), fun A hA => ?_, moD.ex mm, (usE.tr u10 (c := 11) (s := 5 * t.length + 24) (by omega) (by omega)).le (by omega) (by omega)⟩
        rw [hr] at hA
        cases hA
        exact ⟨_, rfl, hL6.new (Nat.le_refl _), hO.is, ds, dp, k, c6, hO.fd rfl, hO.fd rfl, hO.fd rfl, hO.fd rfl, b7.ex mm, b8.ex mm, hk.ex mm, h6D.ex mm⟩
      by_cases qq : zQy t = []
      · rw [if_pos qq]
        refine sAd_read_96 (fun z => absurd z (by decide)) (fun _ => ?_)
        refine sAd_read_99 zRf_ref zRf_ref zRf_ref zRf_ref (b5.ex n8.mo) (by omega) (Nat.le_of_ble_eq_true rfl) (c_Ad_init hC (by omega) h8 (zFr_new ho6)) ?_
        rintro H10 ⟨g1, g2, g3⟩ - - -
        refine sAd_read_113 zRf_ref (fin H10 dq _ b9 ?_ g1 g2 g3)
        rw [hrd, qq]; rfl
      · rw [if_neg qq]
        refine sAd_read_96 (fun _ => ?_) (fun z => absurd rfl z)
        refine sAd_read_106 zRf_ref zRf_ref zRf_ref zRf_ref (by omega) (Nat.le_of_ble_eq_true rfl) (c_Ad_init hC (by omega) h8 (zFr_new ho6)) ?_
        rintro H10 ⟨g1, g2, g3⟩ - - -
        refine sAd_read_113 zRf_ref (fin H10 c5 _ h5D ?_ g1 g2 g3)
        rw [hrd]
        cases hz : zQy t with
        | nil => exact absurd hz qq
        | cons y l => rfl
    · rw [if_neg q]
      refine sAd_read_76 (fun _ => ?_) (fun z => absurd rfl z)
      have hne : (zHd t).isEmpty = false := by
        cases hz : zHd t with
        | nil => exact absurd hz q
        | cons y l => rfl
      refine sAd_read_114 zRf_ref zRf_ref b3 (hR.us usD 1 2 (by omega) (by omega)).1 (hR.us usD 1 2 (by omega) (by omega)).2 (fun H8 h8 n8 => ?_)
      have usE := usD.tr n8.us (c := 11) (s := 5 * t.length + 22) (by omega) (by omega)
      have e8 : H8.size = H7.size + 1 := n8.1
      refine sAd_read_127 (by omega) (Nat.le_of_ble_eq_true rfl) (c_Pt_init hC (by omega) h8 (zFr_new ho6) (hR.us usE 2 20 (by omega) (by omega))) ?_
      rintro H9 ⟨j, v, hP, hj, hv, mo9, us9⟩ ho9 hs9 -
      have usF := usE.tr us9 (c := 13) (s := 5 * t.length + 42) (by omega) (by omega)
      have moF : zMo [] H7 H9 := n8.mo.tr mo9 (fun q z => by cases z) (fun q z => Or.inr (by rw [List.mem_singleton.mp z]; exact Nat.le_refl _))
      have hLp : ∀ v', H7.size ≤ v' → ∀ q ∈ H7.size :: j :: v' :: L, q ∈ L ∨ H7.size ≤ q := by
        intro v' hv' q z
        rcases List.mem_cons.mp z with rfl | z
        · exact Or.inr (Nat.le_refl _)
        · rcases List.mem_cons.mp z with rfl | z
          · exact Or.inr (by omega)
          · rcases List.mem_cons.mp z with rfl | z
            · exact Or.inr hv'
            · exact Or.inl z
      have jv := hP.2.2.2.2.1.lt
      have hfj := hP.2.2.2.2.1.2.1
      have hfv := hP.2.2.2.2.1.2.2.1
      have hLi9 : zLi G H9 (H7.size :: j :: v :: L) := fun q z => by
        rcases List.mem_cons.mp z with rfl | z
        · exact ⟨zFr_new ho6, (by omega)⟩
        · rcases List.mem_cons.mp z with rfl | z
          · exact ⟨hfj, jv.1⟩
          · rcases List.mem_cons.mp z with rfl | z
            · exact ⟨hfv, jv.2⟩
            · exact (hL6.mo moF.1) q z
      have up9 : ∀ {k : Nat} {u : List Nat}, zTx G L H7 k u → zTx G (H7.size :: j :: v :: L) H9 k u := fun hk => hk.st moF (fun q z => by cases z) (hLp v (by omega))
      have t4 := up9 h4D
      have t5 := up9 h5D
      have t6 := up9 h6D
      have tS := up9 b7
      have hB9 : zAd G (H7.size :: j :: v :: L) H9 b B := hBD.st moF (fun q z => by cases z) (hLp v (by omega))
      /- the end: the SITE's name, the PATH -/
      have fin : ∀ (Ha : Heap) (site sg : List Nat) (S : List (List Nat)) (k7 k8 v' m' : Nat) (oa ob : Option Value), zPt G Ha H7.size j v' m' S → H7.size ≤ v' → m' ≤ 156 → (zFlat S).length ≤ 78 → sg.length ≤ t.length → zTx G (H7.size :: j :: v' :: L) Ha k7 site → zTx G (H7.size :: j :: v' :: L) Ha k8 sg → zTx G (H7.size :: j :: v' :: L) Ha c5 (zQy t) → zTx G (H7.size :: j :: v' :: L) Ha c6 (zMk t) → zMo [] H7 Ha → zUs 20 (4 * t.length + 400) H9 Ha → zOk G Ha → (zRead t B = if zNm site = true then (zPath S sg).map (fun pp => (site, pp, zQy t, zMk t)) else none) → zW G d M_Ad_read 231 [some (.ref a), some (.ref b), some (.int (nI (zTw (zNo 35) t))), some (.int (nI (min (zTw (zNo 63) t) (zTw (zNo 35) t)))), some (.ref c4), some (.ref c5), some (.ref c6), some (.ref k7), some (.ref k8), some (.ref H7.size), oa, ob] (.int (if zNm site = true then 1 else 0) :: []) Ha (zPr fun r H1' => (zRead t B = none → r = .null) ∧ (∀ A, zRead t B = some A → ∃ c, r = .ref c ∧ zAd G L H1' c A) ∧ zMo [] H1 H1' ∧ zUs (4 * t.length + 60) (24 * t.length + 1200) H1 H1') := by
        intro Ha site sg S k7 k8 v' m' oa ob hPa hv' hm' hfS hsg x7 x8 x5 x6 moa usa hoa hrd
        have usG := usF.tr usa (c := 33) (s := 9 * t.length + 442) (by omega) (by omega)
        have hLia : zLi G Ha [H7.size, j, v'] := fun q z => by
          have w1 := hPa.2.2.2.2.1.lt
          have w2 := hPa.2.2.2.2.1
          rcases List.mem_cons.mp z with rfl | z
          · exact ⟨zFr_new ho6, hPa.2.2.2.1.lt⟩
          · rcases List.mem_cons.mp z with rfl | z
            · exact ⟨w2.2.1, w1.1⟩
            · rw [List.mem_singleton.mp z]
              exact ⟨w2.2.2.1, w1.2⟩
        refine sAd_read_231 (fun e => sAd_read_244 (none1 Ha [] ?_ (moD.ex moa) (usG.le (by omega) (by omega)))) (fun e => ?_)
        · rw [hrd, if00.mp e]; rfl
        · have hnm := if01.mp e
          rw [if_pos hnm, zPath_eq] at hrd
          have x8' : zTx G [H7.size, j, v'] Ha k8 sg := x8.li (fun q z => Or.inl (by simp only [List.mem_cons, List.not_mem_nil, or_false] at z ⊢; omega))
          refine sAd_read_234 zRf_ref (by omega) (Nat.le_of_ble_eq_true rfl) hPa.2.2.2.1.is (c_Pt_take hC (by omega) hPa x8' hLia (by omega) (hR.us usG _ _ (by omega) (by omega))) ?_
          rintro r Hb ⟨rfl, v2, m2, w1, w2, w3, w4, w5, w6⟩ hob hsb -
          have usH := usG.tr w6 (c := 2 * t.length + 35 + (2 * (t.length + 79)) / 18) (s := 13 * t.length + 446 + 4 * (t.length + 79)) (by omega) (by omega)
          have mob : zMo [] H7 Hb := moa.tr w5 (fun q z => by cases z) (fun q z => by simp only [List.mem_cons, List.not_mem_nil, or_false] at z ⊢; omega)
          by_cases hok : zPok S sg = true
          · rw [if_pos hok]
            rw [if_pos hok] at hrd
            refine sAd_read_241 (fun _ => ?_) (fun z => absurd z (by decide))
            have hPb := w1 hok
            refine sAd_read_246 (hR.us usH 1 4 (by omega) (by omega)).1 (hR.us usH 1 4 (by omega) (by omega)).2 (fun Hc hc nc => ?_)
            have hPc := hPb.ex nc.mo
            have hLc : zLi G Hc (Hb.size :: L) := fun q z => by
              have := nc.1
              rcases List.mem_cons.mp z with rfl | z
              · exact ⟨zFr_new hob, (by omega)⟩
              · exact (hL6.mo (Nat.le_trans mob.1 nc.mo.1)) q z
            have hlb := hPb.2.2.2.2.1.len
            have usI := usH.tr nc.us (c := 2 * t.length + 36 + (2 * (t.length + 79)) / 18) (s := 17 * t.length + 766) (by omega) (by omega)
            refine sAd_read_249 rfl zRf_ref (hPc.2.2.2.1.fd rfl) (by omega) (Nat.le_of_ble_eq_true rfl) hPc.2.2.2.2.1.is (c_Sb_toString hC.1.1 (by omega) hPc.2.2.2.2.1 hLc (hR.us usI _ _ (by omega) (by omega))) ?_
            rintro r Hd - ⟨cb, rfl, tb, md, ud⟩ hod hsd -
            have usJ := usI.tr ud (c := 2 * t.length + 38 + (2 * (t.length + 79)) / 18) (s := 19 * t.length + 930) (by omega) (by omega)
            refine sAd_read_260 zRf_ref zRf_ref zRf_ref zRf_ref (by omega) (Nat.le_of_ble_eq_true rfl) (c_Ad_init hC (by omega) (hc.ex md) (zFr_new hob)) ?_
            rintro He ⟨g1, g2, g3⟩ - - -
            have ebsz : Ha.size ≤ Hb.size := w5.1
            have mae : zMo [H7.size, j, v'] Ha He := ((w5.ex nc.mo).ex md).tr g2 (fun _ z => Or.inl z) (fun q z => Or.inr (by rw [List.mem_singleton.mp z]; exact ebsz))
            have mbe : zMo [] Hb He := (nc.mo.ex md).tr g2 (fun q z => by cases z) (fun q z => Or.inr (by rw [List.mem_singleton.mp z]; exact Nat.le_refl _))
            have mde : zMo [Hb.size] Hd He := g2
            have dn : ∀ {k : Nat} {u : List Nat}, zTx G (H7.size :: j :: v' :: L) Ha k u → zTx G L He k u := fun hk => hk.st mae (fun q z => Or.inl (by simp only [List.mem_cons, List.not_mem_nil, or_false] at z ⊢; omega)) (fun q z => Or.inl (List.mem_cons_of_mem _ (List.mem_cons_of_mem _ (List.mem_cons_of_mem _ z))))
            have tbe : zTx G L He cb (zFlat (zTk S (zSpl 47 sg))) := by
              exact tb.st mde (fun q z => Or.inl (by rw [List.mem_singleton.mp z]; exact List.mem_cons_self)) (fun q z => Or.inl (List.mem_cons_of_mem _ z))
            refine sAd_read_267 zRf_ref ⟨_, rfl, zRf_ref, fun z => (by rw [hrd] at z; cases z), fun A hA => ?_, moD.ex (mob.ex mbe), usJ.tr g3 (c := 4 * t.length + 60) (s := 24 * t.length + 1200) (by omega) (by omega)⟩
            rw [hrd] at hA
            cases hA
            exact ⟨_, rfl, (hL6.mo mob.1).new (Nat.le_refl _), g1.is, k7, cb, c5, c6, g1.fd rfl, g1.fd rfl, g1.fd rfl, g1.fd rfl, dn x7, tbe, dn x5, dn x6⟩
          · rw [if_neg hok]
            rw [if_neg hok] at hrd
            refine sAd_read_241 (fun z => absurd rfl z) (fun _ => ?_)
            exact sAd_read_244 (none1 Hb [] hrd (moD.ex mob) (usH.le (by omega) (by omega)))
      obtain ⟨kA, ltA, txA⟩ := hC.li (L := H7.size :: j :: v :: L) ho9 hLi9 4 rfl
      refine sAd_read_131 zRf_ref zRf_ref ltA (by omega) (Nat.le_of_ble_eq_true rfl) (c_Tx_begins hC.1.1 (by omega) t4 txA hLi9 (hR.us usF _ _ (by omega) (by simp only [List.length_cons, List.length_nil]; omega))) ?_
      rintro r Ha ⟨rfl, moa, usa⟩ hoa hsa -
      simp only [List.length_cons, List.length_nil] at usa
      have x4 := t4.ex moa
      have x5 := t5.ex moa
      have x6 := t6.ex moa
      have xS := tS.ex moa
      have hLia := hLi9.mo hsa
      have hPa := hP.ex moa
      have moa7 : zMo [] H7 Ha := moF.ex moa
      have hrd3 := zRead_3 (B := B) (by rw [hqok, hmok]; rfl) hne
      have lit2 : ([47, 47] : List Nat).length = 2 := rfl
      have lit1 : ([47] : List Nat).length = 1 := rfl
      rw [lit2]
      by_cases c2 : (zHd t).take 2 = [47, 47]
      · rw [if_pos c2]
        rw [if_pos c2] at hrd3
        have hl2 : 2 ≤ (zHd t).length := by
          have := congrArg List.length c2
          rw [List.length_take] at this
          simp at this
          omega
        refine sAd_read_140 (fun z => absurd z (by decide)) (fun _ => ?_)
        refine sAd_read_143 (by omega) (Nat.le_of_ble_eq_true rfl) x4.is (c_St_substring1 hC.1.1 (by omega) x4 (i := 2) hl2 hLia (hR.us (usF.tr usa (c := 15) (s := 5 * t.length + 48) (by omega) (by omega)) _ _ (by omega) (by omega))) ?_
        rintro r Hb - ⟨cr, rfl, hr, mob, usb⟩ hob hsb -
        have hLib := hLia.mo hsb
        have hrl : ((zHd t).drop 2).length ≤ t.length := by rw [List.length_drop]; omega
        have htwr := tw_le (zNo 47) ((zHd t).drop 2)
        have hrl2 := hr.le
        refine sAd_read_149 zRf_ref (by omega) (Nat.le_of_ble_eq_true rfl) (c_Ad_place hC.1.1 (by omega) hr (c := 47) (by decide)) ?_
        rintro r Hb' ⟨rfl, rfl⟩ - - -
        have usb2 := usa.tr usb (c := 4) (s := t.length + 10) (by omega) (by omega)
        refine sAd_read_158 (by omega) (Nat.le_of_ble_eq_true rfl) hr.is (c_St_substring hC.1.1 (by omega) hr (i := 0) (Nat.zero_le _) htwr hLib (hR.us (usF.tr usb2 (c := 17) (s := 6 * t.length + 52) (by omega) (by omega)) _ _ (by omega) (by omega))) ?_
        rintro r Hc - ⟨ck, rfl, hk, moc, usc⟩ hoc hsc -
        rw [List.drop_zero, Nat.sub_zero] at hk
        rw [Nat.sub_zero] at usc
        have hLic := hLib.mo hsc
        have hr' := hr.ex moc
        have usc2 := usb2.tr usc (c := 6) (s := 2 * t.length + 14) (by omega) (by omega)
        refine sAd_read_168 zRf_ref (by omega) (Nat.le_of_ble_eq_true rfl) hr'.is (c_St_length hC.1.1 (by omega) hr') ?_
        rintro r Hc' ⟨rfl, rfl⟩ - - -
        have moc7 : zMo [] Ha Hc' := mob.ex moc
        refine sAd_read_177 (fun z => ?_) (fun z => ?_)
        · have hle := (nI_leI (by omega) (by omega)).mp z
          obtain ⟨kE, ltE, txE⟩ := hC.li (L := H7.size :: j :: v :: L) hoc hLic 5 rfl
          refine sAd_read_192 zRf_ref ltE (by omega) (Nat.le_of_ble_eq_true rfl) (c_Tx_isName hC.1.1 (by omega) hk) ?_
          rintro r Hd ⟨rfl, rfl⟩ - - -
          refine fin Hd _ [] [] _ _ v 16 _ _ (hPa.ex moc7) (by omega) (by decide) (by decide) (Nat.zero_le _) hk txE (x5.ex moc7) (x6.ex moc7) (moa7.ex moc7) (usc2.le (by omega) (by omega)) hoc ?_
          rw [hrd3, show ((zHd t).drop 2).drop (zTw (zNo 47) ((zHd t).drop 2) + 1) = [] from List.drop_of_length_le (by omega)]
        · have hlt : zTw (zNo 47) ((zHd t).drop 2) < ((zHd t).drop 2).length := by
            rcases Nat.lt_or_ge (zTw (zNo 47) ((zHd t).drop 2)) ((zHd t).drop 2).length with w | w
            · exact w
            · exact absurd (nI_le w (by omega)) z
          refine sAd_read_180 (by omega) (Nat.le_of_ble_eq_true rfl) hr'.is (by rw [nI_1]; exact c_St_substring1 hC.1.1 (by omega) hr' hlt hLic (hR.us (usF.tr usc2 (c := 19) (s := 7 * t.length + 56) (by omega) (by omega)) _ _ (by omega) (by omega))) ?_
          rintro r Hd - ⟨ce, rfl, he, mod, usd⟩ hod hsd -
          have usd2 := usc2.tr usd (c := 8) (s := 3 * t.length + 18) (by omega) (by omega)
          have hk' := hk.ex mod
          have mod7 := moc7.ex mod
          refine sAd_read_189 zRf_ref zRf_ref (by omega) (Nat.le_of_ble_eq_true rfl) (c_Tx_isName hC.1.1 (by omega) hk') ?_
          rintro r He ⟨rfl, rfl⟩ - - -
          refine fin He _ _ [] _ _ v 16 _ _ (hPa.ex mod7) (by omega) (by decide) (by decide) (by rw [List.length_drop]; omega) hk' he (x5.ex mod7) (x6.ex mod7) (moa7.ex mod7) (usd2.le (by omega) (by omega)) hod hrd3
      · rw [if_neg c2]
        rw [if_neg c2] at hrd3
        refine sAd_read_140 (fun _ => ?_) (fun z => absurd rfl z)
        obtain ⟨kB, ltB, txB⟩ := hC.li (L := H7.size :: j :: v :: L) hoa hLia 6 rfl
        refine sAd_read_199 zRf_ref ltB (by omega) (Nat.le_of_ble_eq_true rfl) (c_Tx_begins hC.1.1 (by omega) x4 txB hLia (hR.us (usF.tr usa (c := 15) (s := 5 * t.length + 48) (by omega) (by omega)) _ _ (by omega) (by rw [lit1]; omega))) ?_
        rintro r Hb ⟨rfl, mob, usb⟩ hob hsb -
        rw [lit1] at usb ⊢
        have usb2 := usa.tr usb (c := 4) (s := 11) (by omega) (by omega)
        have hLib := hLia.mo hsb
        have y4 := x4.ex mob
        have y5 := x5.ex mob
        have y6 := x6.ex mob
        have yS := xS.ex mob
        have hnB : zNm B.1 = true := hw.1
        have mob7 := moa7.ex mob
        by_cases c1 : (zHd t).take 1 = [47]
        · rw [if_pos c1]
          rw [if_pos c1] at hrd3
          have hl1 : 1 ≤ (zHd t).length := by
            have := congrArg List.length c1
            rw [List.length_take] at this
            simp at this
            omega
          refine sAd_read_206 (fun z => absurd z (by decide)) (fun _ => ?_)
          refine sAd_read_209 (by omega) (Nat.le_of_ble_eq_true rfl) y4.is (c_St_substring1 hC.1.1 (by omega) y4 (i := 1) hl1 hLib (hR.us (usF.tr usb2 (c := 17) (s := 5 * t.length + 53) (by omega) (by omega)) _ _ (by omega) (by omega))) ?_
          rintro r Hc - ⟨cr, rfl, hr, moc, usc⟩ hoc hsc -
          have usc2 := usb2.tr usc (c := 6) (s := t.length + 15) (by omega) (by omega)
          have moc7 := mob.ex moc
          refine sAd_read_215 zRf_ref zRf_ref (by omega) (Nat.le_of_ble_eq_true rfl) (c_Tx_isName hC.1.1 (by omega) (yS.ex moc)) ?_
          rintro r Hd ⟨rfl, rfl⟩ - - -
          refine fin Hd _ _ [] _ _ v 16 _ _ (hPa.ex moc7) (by omega) (by decide) (by decide) (by rw [List.length_drop]; omega) (yS.ex moc) hr (y5.ex moc) (y6.ex moc) (mob7.ex moc) (usc2.le (by omega) (by omega)) hoc ?_
          rw [hrd3, hnB]; rfl
        · rw [if_neg c1]
          rw [if_neg c1] at hrd3
          refine sAd_read_206 (fun _ => ?_) (fun z => absurd rfl z)
          have hPb := hPa.ex mob
          have hBb : zAd G [H7.size, j, v] Hb b B := (hB9.ex (moa.ex mob)).st zMo.rf (S := []) (fun q z => by cases z) (fun q z => Or.inl (by simp only [List.mem_cons, List.not_mem_nil, or_false] at z ⊢; omega))
          refine sAd_read_220 zRf_ref (by omega) (Nat.le_of_ble_eq_true rfl) hPb.2.2.2.1.is (c_Pt_startBeside hC (by omega) hPb hBb hw (hR.us (usF.tr usb2 (c := 17) (s := 5 * t.length + 53) (by omega) (by omega)) _ _ (by omega) (by omega))) ?_
          rintro Hc ⟨v3, m3, w1, w2, w3, w4, w5, w6⟩ hoc hsc -
          have bsz := mob7.1
          have usc2 := usb2.tr w6 (c := 5) (s := 300) (by omega) (by omega)
          have cv : ∀ {k : Nat} {u : List Nat}, zTx G (H7.size :: j :: v :: L) Hb k u → zTx G (H7.size :: j :: v3 :: L) Hc k u := fun hk => hk.st w5 (fun q z => Or.inl (by simp only [List.mem_cons, List.not_mem_nil, or_false] at z ⊢; omega)) (fun q z => by
            rcases List.mem_cons.mp z with rfl | z
            · exact Or.inl List.mem_cons_self
            · rcases List.mem_cons.mp z with rfl | z
              · exact Or.inl (List.mem_cons_of_mem _ List.mem_cons_self)
              · rcases List.mem_cons.mp z with rfl | z
                · rcases w2 with rfl | w2
                  · exact Or.inl (List.mem_cons_of_mem _ (List.mem_cons_of_mem _ List.mem_cons_self))
                  · exact Or.inr w2
                · exact Or.inl (List.mem_cons_of_mem _ (List.mem_cons_of_mem _ (List.mem_cons_of_mem _ z))))
          refine sAd_read_226 zRf_ref (by omega) (Nat.le_of_ble_eq_true rfl) (c_Tx_isName hC.1.1 (by omega) (cv yS)) ?_
          rintro r Hd ⟨rfl, rfl⟩ - - -
          refine fin Hd _ _ _ _ _ v3 m3 _ _ w1 (by omega) w4 ?_ e4 (cv yS) (cv y4) (cv y5) (cv y6) (mob7.tr w5 (fun q z => by cases z) (fun q z => by simp only [List.mem_cons, List.not_mem_nil, or_false] at z ⊢; omega)) (usc2.le (by omega) (by omega)) hoc ?_
          · by_cases z : B.2.1 = []
            · rw [z]; exact Nat.zero_le _
            · rw [zFlat_last z, List.length_append] at hfl; omega
          · rw [hrd3, hnB]; rfl
  refine sAd_read_49 (by omega) (Nat.le_of_ble_eq_true rfl) h6'.is (c_St_isEmpty hC.1.1 h6') ?_
  rintro r H6 ⟨rfl, rfl⟩ - - -
  by_cases q : zMk t = []
  · rw [if_pos q]
    refine sAd_read_54 (fun _ => part2 H6 zMo.rf zUs.rf ho5 ?_) (fun z => absurd z (by decide))
    rw [q]; rfl
  · rw [if_neg q]
    refine sAd_read_54 (fun z => absurd rfl z) (fun _ => ?_)
    have hl1 : 1 ≤ (zMk t).length := List.length_pos_iff.mpr q
    refine sAd_read_57 (by omega) (Nat.le_of_ble_eq_true rfl) h6'.is (c_St_substring1 hC.1.1 (by omega) h6' (i := 1) hl1 hL5 (hR.us usC _ _ (by omega) (by omega))) ?_
    rintro r H7 - ⟨cm, rfl, hm, mom, usm⟩ hom hsm -
    refine sAd_read_63 zRf_ref (by omega) (Nat.le_of_ble_eq_true rfl) (c_Tx_isName hC.1.1 (by omega) hm) ?_
    rintro r H8 ⟨rfl, rfl⟩ - - -
    have hmk : zMok (zMk t) = zNm ((zMk t).drop 1) := by
      unfold zMok
      cases hz : zMk t with
      | nil => exact absurd hz q
      | cons y l => rfl
    refine sAd_read_66 (fun e2 => part2 H8 mom (usm.le (by omega) (by omega)) hom (by rw [hmk]; exact if01.mp e2)) (fun e2 => sAd_read_69 (none1 H8 [] ?_ (moC.ex mom) (usC.tr usm (by omega) (by omega))))
    unfold zRead
    rw [hqok, hmk, if00.mp e2]
    rfl
end KR
