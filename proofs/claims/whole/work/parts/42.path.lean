def zLt (G : zG) (own : String) (idx : Nat) (tx : String) (t : List Nat) : Prop := ∃ a : Nat, vk_R own idx tx a (zS G) ∧ a < (zS G).heap.size ∧ zTx G [] (zS G).heap a t
def zLits : List (String × Nat × String × List Nat) := [("NetDesk", 21, "home", [104, 111, 109, 101]), ("NetDesk", 23, "/", [47]), ("NetDesk", 25, "", []), ("NetDesk$Address", 107, ".-_=&+", [46, 45, 95, 61, 38, 43]), ("NetDesk$Address", 60, "//", [47, 47]), ("NetDesk$Address", 70, "", []), ("NetDesk$Address", 72, "/", [47]), ("NetDesk$Fields", 17, "", []), ("NetDesk$Fields", 33, "open", [111, 112, 101, 110]), ("NetDesk$Fields", 40, "age=", [97, 103, 101, 61]), ("NetDesk$Fields", 56, "cookie=", [99, 111, 111, 107, 105, 101, 61]), ("NetDesk$Fields", 61, "to=", [116, 111, 61]), ("NetDesk$Path", 37, "/.-_", [47, 46, 45, 95]), ("NetDesk$Path", 62, "..", [46, 46]), ("NetDesk$Path", 68, ".", [46]), ("NetDesk$Path", 74, "", []), ("NetDesk$ServerText", 18, "", []), ("NetDesk$ServerText", 73, "//", [47, 47])]
/-- all that the start gives -/
def zCv (G : zG) : Prop := zCu G ∧ ∀ q ∈ zLits, zLt G q.1 q.2.1 q.2.2.1 q.2.2.2
theorem zTx.up0 {G : zG} {L : List Nat} {H : Heap} {a : Nat} {t : List Nat} (h : zTx G [] (zS G).heap a t) (ho : zOk G H) (hL : zLi G H L) : zTx G L H a t := by
  obtain ⟨v, h1, h2, h3, h4, h5, h6, h7, h8⟩ := h
  have hv : v < (zS G).heap.size := h6.lt
  have ha : a < (zS G).heap.size := h3.lt
  have ka := ho.2.1 a ha
  have kv := ho.2.1 v hv
  exact ⟨v, fun z => by have := (hL a z).1; unfold zFr at this; omega, fun z => by have := (hL v z).1; unfold zFr at this; omega, h3.kept ka, h4.kept ka, h5.kept ka, h6.kept kv, h7, h8⟩
theorem zCv.li {G : zG} {L : List Nat} {H : Heap} (hC : zCv G) (ho : zOk G H) (hL : zLi G H L) (i : Nat) {own tx : String} {idx : Nat} {t : List Nat} (h : zLits[i]? = some (own, idx, tx, t)) : ∃ a : Nat, vk_R own idx tx a (zS G) ∧ zTx G L H a t := by
  obtain ⟨a, h1, h2, h3⟩ := hC.2 _ (List.mem_of_getElem? h)
  exact ⟨a, h1, h3.up0 ho hL⟩
theorem zFlat_app {s : List (List Nat)} {x : List Nat} : zFlat (s ++ [x]) = zFlat s ++ (47 :: x) := by simp [zFlat]
theorem zFlat_last {s : List (List Nat)} (h : s ≠ []) : zFlat s = zFlat s.dropLast ++ (47 :: s.getLast h) := by
  rw [← zFlat_app, List.dropLast_concat_getLast]
theorem zFlat_nil {s : List (List Nat)} : (zFlat s).length = 0 ↔ s = [] := by
  cases s with
  | nil => simp [zFlat]
  | cons x l => simp [zFlat]
/-- a Path at p: its builder j, the builder's bytes v -/
def zPt (G : zG) (H : Heap) (p j v m : Nat) (s : List (List Nat)) : Prop := p ≠ j ∧ p ≠ v ∧ zFr G p ∧ zObj G H p 9 [.ref j, .int (nI s.length)] ∧ zSB G H j v m (zFlat s) ∧ (∀ x ∈ s, 47 ∉ x) ∧ 16 ≤ m
theorem zPt.mo {G : zG} {S : List Nat} {H H1 : Heap} {p j v m : Nat} {s : List (List Nat)} (h : zPt G H p j v m s) (q : zMo S H H1) (hp : p ∉ S) (hj : j ∉ S) (hv : v ∉ S) : zPt G H1 p j v m s := by
  obtain ⟨h1, h2, h3, h4, h5, h6⟩ := h
  exact ⟨h1, h2, h3, h4.mo q hp, h5.mo q hj hv, h6⟩
theorem zPt.ex {G : zG} {H H1 : Heap} {p j v m : Nat} {s : List (List Nat)} (h : zPt G H p j v m s) (q : zMo [] H H1) : zPt G H1 p j v m s := h.mo q List.not_mem_nil List.not_mem_nil List.not_mem_nil
theorem zPt.slen {G : zG} {H : Heap} {p j v m : Nat} {s : List (List Nat)} (h : zPt G H p j v m s) : s.length ≤ 65536 := by
  have h1 := h.2.2.2.2.1.len
  have h2 : s.length ≤ (zFlat s).length := by
    clear h h1
    induction s with
    | nil => exact Nat.zero_le _
    | cons x l ih =>
      have : (zFlat (x :: l)).length = x.length + 1 + (zFlat l).length := by simp [zFlat]; omega
      rw [this, List.length_cons]
      omega
  omega
theorem zTx.st {G : zG} {L L2 S : List Nat} {H H1 : Heap} {a : Nat} {t : List Nat} (h : zTx G L H a t) (m : zMo S H H1) (hS : ∀ q ∈ S, q ∈ L ∨ H.size ≤ q) (hL : ∀ q ∈ L2, q ∈ L ∨ H.size ≤ q) : zTx G L2 H1 a t := by
  obtain ⟨v, h1, h2, h3, h4, h5, h6, h7⟩ := h
  have e1 := h3.lt
  have e2 := h6.lt
  have ha : a ∉ S := fun z => (hS a z).elim h1 (fun w => by omega)
  have hv : v ∉ S := fun z => (hS v z).elim h2 (fun w => by omega)
  exact ⟨v, fun z => (hL a z).elim h1 (fun w => by omega), fun z => (hL v z).elim h2 (fun w => by omega), h3.mo m ha, h4.mo m ha, h5.mo m ha, h6.mo m hv, h7⟩
theorem mem1 {a : Nat} : a ∈ [a] := List.mem_singleton.mpr rfl
theorem zMo.in1 {S : List Nat} {a : Nat} {H H1 : Heap} (h : zMo [a] H H1) (ha : a ∈ S) : zMo S H H1 := h.mono (fun q z => Or.inl (by rw [List.mem_singleton.mp z]; exact ha))
theorem zMo.in2 {S : List Nat} {a b : Nat} {H H1 : Heap} (h : zMo [a, b] H H1) (ha : a ∈ S) (hb : b ∈ S) : zMo S H H1 := h.mono (fun q z => by
  rcases List.mem_cons.mp z with rfl | z
  · exact Or.inl ha
  · rw [List.mem_singleton.mp z]; exact Or.inl hb)
theorem zMo.tt {S : List Nat} {H H1 H2 : Heap} (h1 : zMo S H H1) (h2 : zMo S H1 H2) : zMo S H H2 := h1.tr h2 (fun _ z => Or.inl z) (fun _ z => Or.inl z)
section KP
variable {G : zG} {d : Nat} {L : List Nat} {H : Heap} {p j v m a : Nat} {s : List (List Nat)} {t x : List Nat}
theorem c_Pt_pop (hC : zCv G) (hd : 6 ≤ d) (h : zPt G H p j v m s) : zC G d M_Pt_pop [.ref p] H (zPv fun H1 => zPt G H1 p j v m s.dropLast ∧ zMo [p, j] H H1 ∧ zUs 0 0 H H1) := by
  have h0 := h
  have hsl := h.slen
  obtain ⟨h1, h2, h3, h4, h5, h6, h16⟩ := h
  have hlen := h5.len
  have hs := h5.is
  refine zC_in [some (.ref p), none] pn_Pt_pop hC.1.1.1 rfl (Nat.le_of_ble_eq_true rfl) rfl (fun ho => ?_)
  refine sPt_pop_0 (h4.fd rfl) (by omega) (Nat.le_of_ble_eq_true rfl) hs (c_Sb_length hC.1.1 (by omega) h5) ?_
  rintro r H1 ⟨rfl, rfl⟩ - - -
  refine sPt_pop_7 (fun e => ?_) (fun e => ?_)
  · have hne : s ≠ [] := fun z => e (by rw [z]; rfl)
    refine sPt_pop_11 (h4.fd rfl) (by omega) (Nat.le_of_ble_eq_true rfl) hs (c_Sb_length hC.1.1 (by omega) h5) ?_
    rintro r H1 ⟨rfl, rfl⟩ - - -
    refine sPt_pop_18 ?_
    have ef := zFlat_last hne
    have hl2 : (zFlat s).length = (zFlat s.dropLast).length + 1 + (s.getLast hne).length := by rw [ef, List.length_append, List.length_cons]; omega
    have no47 : 47 ∉ s.getLast hne := h6 _ (List.getLast_mem hne)
    rw [show nI (zFlat s).length - 1 = nI ((zFlat s).length - 1) from pk_sub (b := 1) (by omega)]
    have fin : zW G d M_Pt_pop 44 [some (.ref p), some (.int (nI (zFlat s.dropLast).length))] [] H1 (zPv fun H2 => zPt G H2 p j v m s.dropLast ∧ zMo [p, j] H1 H2 ∧ zUs 0 0 H1 H2) := by
      refine sPt_pop_44 (h4.fd rfl) (by omega) (Nat.le_of_ble_eq_true rfl) hs (c_Sb_setLength hC.1.1 (by omega) h5 (n := (zFlat s.dropLast).length) (by omega)) ?_
      rintro H2 ⟨g1, g2, g3⟩ - - -
      have hp : p ∉ [j] := fun z => h1 (List.mem_singleton.mp z)
      have h4' := h4.mo g2 hp
      refine sPt_pop_52 (h4'.fd rfl) h4' h3 (fun H3 k1 k2 => ?_)
      rw [show nI s.length - 1 = nI (s.length - 1) from pk_sub (b := 1) (by have := List.length_pos_iff.mpr hne; omega)] at k1
      have et : (zFlat s).take (zFlat s.dropLast).length = zFlat s.dropLast := by rw [ef, List.take_left]
      rw [et] at g1
      refine sPt_pop_62 ⟨rfl, ⟨h1, h2, h3, by rw [List.length_dropLast]; exact k1, g1.mo k2.mo (fun z => h1 (List.mem_singleton.mp z).symm) (fun z => h2 (List.mem_singleton.mp z).symm), fun y hy => h6 y (List.dropLast_subset s hy), h16⟩, (g2.in1 (List.mem_cons_of_mem _ mem1)).up k2 (Or.inl List.mem_cons_self), g3.tr k2.us (c2 := 0) (s2 := 0) (by omega) (by omega)⟩
    have main : ∀ (k i : Nat), i = (zFlat s.dropLast).length + k → k ≤ (s.getLast hne).length → zW G d M_Pt_pop 21 [some (.ref p), some (.int (nI i))] [] H1 (zPv fun H2 => zPt G H2 p j v m s.dropLast ∧ zMo [p, j] H1 H2 ∧ zUs 0 0 H1 H2) := by
      intro k
      induction k with
      | zero =>
        intro i hi hk
        subst hi
        rw [Nat.add_zero]
        refine sPt_pop_21 (fun _ => fin) (fun e2 => ?_)
        refine sPt_pop_25 (h4.fd rfl) (by omega) (Nat.le_of_ble_eq_true rfl) hs (c_Sb_charAt hC.1.1 (by omega) h5 (by omega)) ?_
        rintro r H2 ⟨rfl, rfl⟩ - - -
        refine sPt_pop_33 (fun _ => fin) (fun z => absurd ?_ z)
        rw [ef, getD_app_hi (Nat.le_refl _), Nat.sub_self]
        rfl
      | succ k ih =>
        intro i hi hk
        refine sPt_pop_21 (fun e2 => absurd e2 (nI_nle (by omega) (by omega))) (fun e2 => ?_)
        refine sPt_pop_25 (h4.fd rfl) (by omega) (Nat.le_of_ble_eq_true rfl) hs (c_Sb_charAt hC.1.1 (by omega) h5 (i := i) (by omega)) ?_
        rintro r H2 ⟨rfl, rfl⟩ - - -
        have hb := zTx_get h5.b i
        refine sPt_pop_33 (fun z => ?_) (fun _ => ?_)
        · have z2 := (nI_eq (b := 47) (by omega) (by decide)).mp z
          rw [ef, getD_app_hi (by omega), show i - (zFlat s.dropLast).length = k + 1 by omega] at z2
          exact absurd (by rw [← z2]; exact getD_mem (xs := s.getLast hne) (i := k) (by omega)) no47
        · refine sPt_pop_38 ?_
          rw [show nI i + (-1) = nI (i - 1) from sb_m1 (by omega)]
          exact ih (i - 1) (by omega) (by omega)
    exact main (s.getLast hne).length _ (by omega) (Nat.le_refl _)
  · have hne : s = [] := zFlat_nil.mp ((nI_eq (b := 0) (by omega) (by decide)).mp e)
    refine sPt_pop_10 ⟨rfl, ?_, zMo.rf, zUs.rf⟩
    rw [hne] at h0 ⊢
    exact h0
theorem c_Pt_push (hC : zCv G) (hd : 6 ≤ d) (h : zPt G H p j v m s) (hx : zTx G [p, j, v] H a x) (h47 : 47 ∉ x) (hk : (zFlat s).length + x.length + 1 ≤ 32768) (hR : zRm G H 2 (6 * ((zFlat s).length + x.length + 1))) :
    zC G d M_Pt_push [.ref p, .ref a] H (zPv fun H1 => ∃ v' m', zPt G H1 p j v' m' (s ++ [x]) ∧ m ≤ m' ∧ (v' = v ∨ H.size ≤ v') ∧ (m' = m ∨ m' ≤ 2 * ((zFlat s).length + x.length + 1)) ∧ zMo [p, j, v] H H1 ∧ zUs ((m' - m) / 18) (2 * (m' - m)) H H1) := by
  have hsl := h.slen
  obtain ⟨h1, h2, h3, h4, h5, h6, h16⟩ := h
  have hlen := h5.len
  have hxl := hx.le
  have hjl := h5.lt
  have hpl := h4.lt
  refine zC_in [some (.ref p), some (.ref a)] pn_Pt_push hC.1.1.1 rfl (Nat.le_of_ble_eq_true rfl) rfl (fun ho => ?_)
  refine sPt_push_0 (h4.fd rfl) (by omega) (Nat.le_of_ble_eq_true rfl) h5.is (c_Sb_append0 hC.1.1 (by omega) h5 (c := 47) (by decide) (by omega) (hR.le 1 _ (by omega) (by omega))) ?_
  rintro r H1 - ⟨rfl, v1, m1, g1, g2, g3, g4, g5, g6⟩ ho1 hsz -
  have h4' := h4.mo g5 (by simp only [List.mem_cons, List.not_mem_nil, or_false]; omega)
  have hx1 : zTx G [j, v1] H1 a x := hx.st g5 (fun q z => by simp only [List.mem_cons, List.not_mem_nil, or_false] at z ⊢; omega) (fun q z => by simp only [List.mem_cons, List.not_mem_nil, or_false] at z ⊢; omega)
  have e1 : (zFlat s ++ [47]).length = (zFlat s).length + 1 := by simp
  refine sPt_push_9 rfl zRf_ref (h4'.fd rfl) (by omega) (Nat.le_of_ble_eq_true rfl) g1.is (c_Sb_append1 hC.1.1 (by omega) g1 hx1 (by rw [e1]; omega) (hR.us g6 1 _ (by omega) (by rw [e1]; omega))) ?_
  rintro r H2 - ⟨rfl, v2, m2, k1, k2, k3, k4, k5, k6⟩ ho2 - -
  rw [e1] at k4
  have h4'' := h4'.mo k5 (by simp only [List.mem_cons, List.not_mem_nil, or_false]; omega)
  have hj1 := g1.1
  refine sPt_push_18 rfl (h4''.fd rfl) h4'' h3 (fun H3 f1 f2 => ?_)
  rw [nI_1] at f1
  have e2 : zFlat s ++ [47] ++ x = zFlat (s ++ [x]) := by rw [zFlat_app]; simp
  rw [e2] at k1
  refine sPt_push_29 ⟨rfl, v2, m2, ⟨h1, by omega, h3, by rw [List.length_append]; exact f1, k1.mo f2.mo (by simp only [List.mem_cons, List.not_mem_nil, or_false]; omega) (by simp only [List.mem_cons, List.not_mem_nil, or_false]; omega), fun y hy => ?_, (by omega)⟩, (by omega), (by omega), (by omega), ?_, (g6.tr k6 (c := (m2 - m) / 18) (s := 2 * (m2 - m)) (by omega) (by omega)).tr f2.us (c2 := 0) (s2 := 0) (by omega) (by omega)⟩
  · rcases List.mem_append.mp hy with q | q
    · exact h6 y q
    · rw [List.mem_singleton.mp q]; exact h47
  · exact ((g5.tr k5 (S := [p, j, v]) (fun q z => by simp only [List.mem_cons, List.not_mem_nil, or_false] at z ⊢; omega) (fun q z => by simp only [List.mem_cons, List.not_mem_nil, or_false] at z ⊢; omega)).up f2 (Or.inl List.mem_cons_self))
/-- one SEGMENT -/
def zOne (l : Bool) (s : List (List Nat)) (x : List Nat) : List (List Nat) := if l then zLast s x else zSt s x
theorem c_Pt_takeOne (hC : zCv G) (hd : 7 ≤ d) (h : zPt G H p j v m s) (hx : zTx G [p, j, v] H a x) (h47 : 47 ∉ x) (hpl : zLi G H [p, j, v]) (l : Bool) (hk : (zFlat s).length + x.length + 1 ≤ 32768) (hR : zRm G H 2 (6 * ((zFlat s).length + x.length + 1))) :
    zC G d M_Pt_takeOne [.ref p, .ref a, .int (if l = true then 1 else 0)] H (zPi fun r H1 => r = (if x.length ≤ 12 then 1 else 0) ∧ ∃ v' m', (x.length ≤ 12 → zPt G H1 p j v' m' (zOne l s x)) ∧ m ≤ m' ∧ (v' = v ∨ H.size ≤ v') ∧ (m' = m ∨ m' ≤ 2 * ((zFlat s).length + x.length + 1)) ∧ zMo [p, j, v] H H1 ∧ zUs ((m' - m) / 18) (2 * (m' - m)) H H1 ∧ v' < H1.size) := by
  have hxl := hx.le
  have hjl := h.2.2.2.2.1.lt
  have hlen := h.2.2.2.2.1.len
  refine zC_in [some (.ref p), some (.ref a), some (.int (if l = true then 1 else 0)), none] pn_Pt_takeOne hC.1.1.1 rfl (Nat.le_of_ble_eq_true rfl) rfl (fun ho => ?_)
  refine sPt_takeOne_0 (by omega) (Nat.le_of_ble_eq_true rfl) hx.is (c_St_length hC.1.1 (by omega) hx) ?_
  rintro r H1 ⟨rfl, rfl⟩ - - -
  refine sPt_takeOne_4 (fun e => ?_) (fun e => sPt_takeOne_9 rfl ⟨_, rfl, ?_, v, m, ?_, Nat.le_refl _, Or.inl rfl, Or.inl rfl, zMo.rf, zUs.rf, hjl.2⟩)
  · have h12 := (nI_leI (b := 12) (by omega) (by decide)).mp e
    rw [if_pos h12]
    obtain ⟨k1, lt1, tx1⟩ := hC.li (L := [p, j, v]) ho hpl 13 rfl
    refine sPt_takeOne_11 lt1 (by omega) (Nat.le_of_ble_eq_true rfl) hx.is (c_St_equals hC.1.1 (by omega) hx tx1) ?_
    rintro r H1 ⟨rfl, rfl⟩ - - -
    obtain ⟨k2, lt2, tx2⟩ := hC.li (L := [p, j, v]) ho hpl 15 rfl
    /- the end: an empty one, if it is the last -/
    have fin : ∀ (H2 : Heap) (s2 : List (List Nat)) (o : Option Value), zPt G H2 p j v m s2 → zTx G [p, j, v] H2 k2 [] → zMo [p, j, v] H1 H2 → zUs 0 0 H1 H2 → H1.size ≤ H2.size → (zFlat s2).length ≤ (zFlat s).length → (∀ b, zOne b s x = if b then s2 ++ [[]] else s2) → zW G d M_Pt_takeOne 47 [some (.ref p), some (.ref a), some (.int (if l = true then 1 else 0)), o] [] H2 (zPi fun r H3 => r = 1 ∧ ∃ v' m', (x.length ≤ 12 → zPt G H3 p j v' m' (zOne l s x)) ∧ m ≤ m' ∧ (v' = v ∨ H1.size ≤ v') ∧ (m' = m ∨ m' ≤ 2 * ((zFlat s).length + x.length + 1)) ∧ zMo [p, j, v] H1 H3 ∧ zUs ((m' - m) / 18) (2 * (m' - m)) H1 H3 ∧ v' < H3.size) := by
      intro H2 s2 o f1 f2 f3 f4 f5 f6 f7
      cases l with
      | false =>
        refine sPt_takeOne_47 (fun _ => ?_) (fun z => absurd rfl z)
        refine sPt_takeOne_57 rfl ⟨_, rfl, rfl, v, m, fun _ => ?_, Nat.le_refl _, Or.inl rfl, Or.inl rfl, f3, f4.le (by omega) (by omega), f1.2.2.2.2.1.lt.2⟩
        rw [f7]; exact f1
      | true =>
        refine sPt_takeOne_47 (fun z => absurd z (by decide)) (fun _ => ?_)
        refine sPt_takeOne_51 lt2 (by omega) (Nat.le_of_ble_eq_true rfl) f1.2.2.2.1.is (c_Pt_push hC (by omega) f1 f2 (by simp) (by simp only [List.length_nil]; omega) (hR.us (c1 := 0) (s1 := 0) f4 _ _ (by omega) (by simp only [List.length_nil]; omega))) ?_
        rintro H3 ⟨v', m', q1, q2, q3, q4, q5, q6⟩ - - -
        refine sPt_takeOne_57 rfl ⟨_, rfl, rfl, v', m', fun _ => ?_, q2, (by omega), ?_, f3.tt q5, f4.tr q6 (by omega) (by omega), q1.2.2.2.2.1.lt.2⟩
        · rw [f7]; exact q1
        · have : ([] : List Nat).length = 0 := rfl
          omega
    by_cases q : x = [46, 46]
    · rw [if_pos q]
      refine sPt_takeOne_17 (fun z => absurd z (by decide)) (fun _ => ?_)
      refine sPt_takeOne_22 (by omega) (Nat.le_of_ble_eq_true rfl) h.2.2.2.1.is (c_Pt_pop hC (by omega) h) ?_
      rintro H2 ⟨q1, q2, q3⟩ ho2 hs2 -
      refine sPt_takeOne_26 (fun _ => ?_) (fun z => absurd z (by decide))
      refine fin H2 s.dropLast _ q1 (tx2.mo q2 (fun q z => by simp only [List.mem_cons, List.not_mem_nil, or_false] at z ⊢; omega)) (q2.in2 List.mem_cons_self (List.mem_cons_of_mem _ List.mem_cons_self)) q3 hs2 ?_ (fun b => ?_)
      · by_cases z : s = []
        · rw [z]; exact Nat.le_refl _
        · rw [zFlat_last z, List.length_append]; omega
      · unfold zOne zLast zSt
        rw [if_pos q, if_pos q]
    · rw [if_neg q]
      refine sPt_takeOne_17 (fun _ => ?_) (fun z => absurd rfl z)
      refine sPt_takeOne_26 (fun z => absurd rfl z) (fun _ => ?_)
      obtain ⟨k3, lt3, tx3⟩ := hC.li (L := [p, j, v]) ho hpl 14 rfl
      refine sPt_takeOne_30 lt3 (by omega) (Nat.le_of_ble_eq_true rfl) hx.is (c_St_equals hC.1.1 (by omega) hx tx3) ?_
      rintro r H2 ⟨rfl, rfl⟩ - - -
      by_cases q2 : x = [46]
      · rw [if_pos q2]
        refine sPt_takeOne_36 (fun _ => ?_) (fun z => absurd z (by decide))
        refine fin H2 s _ h tx2 zMo.rf zUs.rf (Nat.le_refl _) (Nat.le_refl _) (fun b => ?_)
        unfold zOne zLast zSt
        rw [if_neg q, if_neg q, if_pos q2, if_pos q2]
      · rw [if_neg q2]
        refine sPt_takeOne_36 (fun z => absurd rfl z) (fun _ => ?_)
        refine sPt_takeOne_39 zRf_ref (by omega) (Nat.le_of_ble_eq_true rfl) h.2.2.2.1.is (c_Pt_push hC (by omega) h hx h47 hk hR) ?_
        rintro H3 ⟨v', m', q3, q4, q5, q6, q7, q8⟩ - - -
        refine sPt_takeOne_44 rfl ⟨_, rfl, rfl, v', m', fun _ => ?_, q4, q5, q6, q7, q8, q3.2.2.2.2.1.lt.2⟩
        have : zOne l s x = s ++ [x] := by
          unfold zOne zLast zSt
          rw [if_neg q, if_neg q, if_neg q2, if_neg q2]
          split <;> rfl
        rw [this]; exact q3
  · have h12 : ¬ x.length ≤ 12 := fun z => e ((nI_leI (b := 12) (by omega) (by decide)).mpr z)
    rw [if_neg h12]
  · intro z
    exact absurd ((nI_leI (b := 12) (by omega) (by decide)).mpr z) e
end KP
