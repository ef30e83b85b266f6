/-! The model's constructor. -/
theorem zW_mono {G : zG} {d : Nat} {M : zMd} {pc : Nat} {lv : List (Option Value)} {st : List Value} {H : Heap} {Q Q2 : Option Value → Heap → Prop} (h : zW G d M pc lv st H Q2) (hq : ∀ v H1, Q2 v H1 → Q v H1) : zW G d M pc lv st H Q := by
  intro p e s m args below meth c locs ls cells slots g0 g1 A h1 h2 h3 h4 h5 T hT X
  obtain ⟨t, a, o, b1, b2, ⟨v, q1, q2, q3⟩, b4⟩ := h p e s m args below meth c locs ls cells slots g0 g1 A h1 h2 h3 h4 h5 T hT X
  exact ⟨t, a, o, b1, b2, ⟨v, q1, hq v _ q2, q3⟩, b4⟩
def rk : Nat → Nat := fun k => match k with
  | 0 => 0 | 2 => 1 | 4 => 2 | 6 => 3 | 7 => 4 | 8 => 5 | 9 => 6 | 10 => 7 | 11 => 8 | 17 => 9 | 18 => 10 | 19 => 11 | 20 => 12 | 21 => 13 | 22 => 14 | 23 => 15 | 24 => 16 | 28 => 17 | 29 => 18 | 31 => 19 | 32 => 20 | 33 => 21 | 34 => 22 | 36 => 23 | 43 => 24 | 47 => 25 | _ => 99
/-- the fields when the first j arrays are there -/
def pFs (b j k : Nat) : Value := if mLn k = 0 then .int 0 else if rk k < j then .ref (b + rk k) else .null
def pI (G : zG) (x : Nat) (H0 H : Heap) (j s : Nat) : Prop := H.size = H0.size + j ∧ zObj G H x 13 ((List.range 51).map (pFs H0.size j)) ∧ (∀ k, k < 51 → mLn k ≠ 0 → rk k < j → zArr G H (H0.size + rk k) (mTy k) (mLn k) (fun _ => .int 0)) ∧ zMo [x] H0 H ∧ zUs j s H0 H ∧ zOk G H
theorem pFs_set {b j k : Nat} (hk : k < 51) (hn : mLn k ≠ 0) (hj : rk k = j) (hu : ∀ i, i < 51 → i ≠ k → mLn i ≠ 0 → rk i ≠ j) : ((List.range 51).map (pFs b j)).set k (.ref (b + j)) = (List.range 51).map (pFs b (j + 1)) := by
  apply List.ext_getElem
  · simp
  · intro i h1 h2
    rw [List.length_map, List.length_range] at h2
    rw [List.getElem_set, List.getElem_map, List.getElem_map, List.getElem_range]
    by_cases e : k = i
    · rw [if_pos e]
      subst e
      unfold pFs
      rw [if_neg hn, if_pos (by omega), hj]
    · rw [if_neg e]
      unfold pFs
      by_cases h0 : mLn i = 0
      · rw [if_pos h0, if_pos h0]
      · have := hu i h2 (Ne.symm e) h0
        rw [if_neg h0, if_neg h0]
        by_cases w : rk i < j
        · rw [if_pos w, if_pos (by omega)]
        · rw [if_neg w, if_neg (by omega)]
theorem pI.step {G : zG} {x : Nat} {H0 H H1 H2 : Heap} {j s k N : Nat} {ty : FieldType} {c t : Nat} (h : pI G x H0 H j s) (hx0 : x < H0.size) (hR : zRm G H0 c t) (hc : j + 1 ≤ c) (hs : s + N ≤ t) (g : zArr G H1 H.size ty N (fun _ => .int 0)) (n : zNw N H H1) (hxf : zFr G x) (u : zUp x H1 H2) (o : zObj G H2 x 13 (((List.range 51).map (pFs H0.size j)).set k (.ref H.size))) (hk : k < 51) (hn : mLn k = N) (hn0 : N ≠ 0) (hty : mTy k = ty) (hj : rk k = j) (hu : ∀ i, i < 51 → i ≠ k → mLn i ≠ 0 → rk i ≠ j) : pI G x H0 H2 (j + 1) (s + N) := by
  obtain ⟨h1, h2, h3, h4, h5, h6⟩ := h
  have z1 : H1.size = H.size + 1 := n.1
  have z2 : H2.size = H1.size := u.1
  have hrm := hR.us h5 1 N (by omega) (by omega)
  refine ⟨(by omega), ?_, fun i hi h0 hr => ?_, (h4.nw n).up u (Or.inl mem1), (h5.tr n.us (c := j + 1) (s := s + N) (by omega) (by omega)).tr u.us (c2 := 0) (s2 := 0) (by omega) (by omega), u.ok hxf (n.ok hrm.1 hrm.2 h6)⟩
  · rw [← pFs_set hk (by rw [hn]; exact hn0) hj hu, ← h1]; exact o
  · by_cases e : i = k
    · subst e
      rw [hj, hty, hn, ← h1]
      exact g.mo u.mo (fun z => by have := List.mem_singleton.mp z; omega)
    · have := hu i hi e h0
      exact ((h3 i hi h0 (by omega)).ex n.mo).mo u.mo (fun z => by have := List.mem_singleton.mp z; omega)

section ND
variable {G : zG} {d : Nat} {H : Heap} {x : Nat}
/-- all arrays are made: the rest stands over the memory -/
theorem mi_arrays (hC : zCs G) (hx : zFr G x) (hx0 : x < H.size) (hO : zObj G H x 13 ((List.range 51).map (pFs H.size 0))) (hR : zRm G H 26 61192) (ho : zOk G H) {Q : Option Value → Heap → Prop} (kk : ∀ H1, pI G x H H1 26 61192 → zW G d M_Mo_init 224 [some (.ref x)] [] H1 Q) : zW G d M_Mo_init 4 [some (.ref x)] [] H Q := by
  have hle : ∀ b j, ((List.range 51).map (pFs b j)).length ≤ zN 13 := fun b j => by rw [List.length_map, List.length_range]; exact (Nat.le_of_ble_eq_true rfl)
  have I0 : pI G x H H 0 0 := ⟨rfl, hO, fun k _ _ z => absurd z (Nat.not_lt_zero _), zMo.rf, zUs.rf, ho⟩
  refine sMo_init_4 zRf_ref (by decide) rfl (by decide) (hR.us I0.2.2.2.2.1 1 2000 (by decide) (by decide)).1 (hR.us I0.2.2.2.2.1 1 2000 (by decide) (by decide)).2 (fun H1 g1 n1 => ?_)
  refine zw_putf (k := 0) dMo_init_10 zp_Mo_init_24 (I0.2.1.ex n1.mo) (hle _ _) (by rw [List.length_map, List.length_range]; decide) hx (zNarA zRf_ref) (zFitA zRf_ref) (fun H2 o2 u2 => ?_)
  have I1 := I0.step hx0 hR (by decide) (by decide) g1 n1 hx u2 o2 (by decide) ml_0 (by decide) rfl rfl (by decide +kernel)
  refine sMo_init_13 zRf_ref (by decide) rfl (by decide) (hR.us I1.2.2.2.2.1 1 2000 (by decide) (by decide)).1 (hR.us I1.2.2.2.2.1 1 2000 (by decide) (by decide)).2 (fun H3 g3 n3 => ?_)
  refine zw_putf (k := 2) dMo_init_19 zp_Mo_init_21 (I1.2.1.ex n3.mo) (hle _ _) (by rw [List.length_map, List.length_range]; decide) hx (zNarA zRf_ref) (zFitA zRf_ref) (fun H4 o4 u4 => ?_)
  have I2 := I1.step hx0 hR (by decide) (by decide) g3 n3 hx u4 o4 (by decide) ml_2 (by decide) rfl rfl (by decide +kernel)
  refine sMo_init_22 zRf_ref (by decide) rfl (by decide) (hR.us I2.2.2.2.2.1 1 8000 (by decide) (by decide)).1 (hR.us I2.2.2.2.2.1 1 8000 (by decide) (by decide)).2 (fun H5 g5 n5 => ?_)
  refine zw_putf (k := 4) dMo_init_28 zp_Mo_init_7 (I2.2.1.ex n5.mo) (hle _ _) (by rw [List.length_map, List.length_range]; decide) hx (zNarA zRf_ref) (zFitA zRf_ref) (fun H6 o6 u6 => ?_)
  have I3 := I2.step hx0 hR (by decide) (by decide) g5 n5 hx u6 o6 (by decide) ml_4 (by decide) rfl rfl (by decide +kernel)
  refine sMo_init_31 zRf_ref (by decide) rfl (by decide) (hR.us I3.2.2.2.2.1 1 9900 (by decide) (by decide)).1 (hR.us I3.2.2.2.2.1 1 9900 (by decide) (by decide)).2 (fun H7 g7 n7 => ?_)
  refine zw_putf (k := 6) dMo_init_37 zp_Mo_init_36 (I3.2.1.ex n7.mo) (hle _ _) (by rw [List.length_map, List.length_range]; decide) hx (zNarA zRf_ref) (zFitA zRf_ref) (fun H8 o8 u8 => ?_)
  have I4 := I3.step hx0 hR (by decide) (by decide) g7 n7 hx u8 o8 (by decide) ml_6 (by decide) rfl rfl (by decide +kernel)
  refine sMo_init_40 zRf_ref (by decide) rfl (by decide) (hR.us I4.2.2.2.2.1 1 66 (by decide) (by decide)).1 (hR.us I4.2.2.2.2.1 1 66 (by decide) (by decide)).2 (fun H9 g9 n9 => ?_)
  refine zw_putf (k := 7) dMo_init_45 zp_Mo_init_39 (I4.2.1.ex n9.mo) (hle _ _) (by rw [List.length_map, List.length_range]; decide) hx (zNarA zRf_ref) (zFitA zRf_ref) (fun H10 o10 u10 => ?_)
  have I5 := I4.step hx0 hR (by decide) (by decide) g9 n9 hx u10 o10 (by decide) ml_7 (by decide) rfl rfl (by decide +kernel)
  refine sMo_init_48 zRf_ref (by decide) rfl (by decide) (hR.us I5.2.2.2.2.1 1 66 (by decide) (by decide)).1 (hR.us I5.2.2.2.2.1 1 66 (by decide) (by decide)).2 (fun H11 g11 n11 => ?_)
  refine zw_putf (k := 8) dMo_init_53 zp_Mo_init_43 (I5.2.1.ex n11.mo) (hle _ _) (by rw [List.length_map, List.length_range]; decide) hx (zNarA zRf_ref) (zFitA zRf_ref) (fun H12 o12 u12 => ?_)
  have I6 := I5.step hx0 hR (by decide) (by decide) g11 n11 hx u12 o12 (by decide) ml_8 (by decide) rfl rfl (by decide +kernel)
  refine sMo_init_56 zRf_ref (by decide) rfl (by decide) (hR.us I6.2.2.2.2.1 1 2200 (by decide) (by decide)).1 (hR.us I6.2.2.2.2.1 1 2200 (by decide) (by decide)).2 (fun H13 g13 n13 => ?_)
  refine zw_putf (k := 9) dMo_init_62 zp_Mo_init_70 (I6.2.1.ex n13.mo) (hle _ _) (by rw [List.length_map, List.length_range]; decide) hx (zNarA zRf_ref) (zFitA zRf_ref) (fun H14 o14 u14 => ?_)
  have I7 := I6.step hx0 hR (by decide) (by decide) g13 n13 hx u14 o14 (by decide) ml_9 (by decide) rfl rfl (by decide +kernel)
  refine sMo_init_65 zRf_ref (by decide) rfl (by decide) (hR.us I7.2.2.2.2.1 1 2100 (by decide) (by decide)).1 (hR.us I7.2.2.2.2.1 1 2100 (by decide) (by decide)).2 (fun H15 g15 n15 => ?_)
  refine zw_putf (k := 10) dMo_init_71 zp_Mo_init_64 (I7.2.1.ex n15.mo) (hle _ _) (by rw [List.length_map, List.length_range]; decide) hx (zNarA zRf_ref) (zFitA zRf_ref) (fun H16 o16 u16 => ?_)
  have I8 := I7.step hx0 hR (by decide) (by decide) g15 n15 hx u16 o16 (by decide) ml_10 (by decide) rfl rfl (by decide +kernel)
  refine sMo_init_74 zRf_ref (by decide) rfl (by decide) (hR.us I8.2.2.2.2.1 1 2100 (by decide) (by decide)).1 (hR.us I8.2.2.2.2.1 1 2100 (by decide) (by decide)).2 (fun H17 g17 n17 => ?_)
  refine zw_putf (k := 11) dMo_init_80 zp_Mo_init_67 (I8.2.1.ex n17.mo) (hle _ _) (by rw [List.length_map, List.length_range]; decide) hx (zNarA zRf_ref) (zFitA zRf_ref) (fun H18 o18 u18 => ?_)
  have I9 := I8.step hx0 hR (by decide) (by decide) g17 n17 hx u18 o18 (by decide) ml_11 (by decide) rfl rfl (by decide +kernel)
  refine sMo_init_83 zRf_ref (by decide) rfl (by decide) (hR.us I9.2.2.2.2.1 1 30000 (by decide) (by decide)).1 (hR.us I9.2.2.2.2.1 1 30000 (by decide) (by decide)).2 (fun H19 g19 n19 => ?_)
  refine zw_putf (k := 17) dMo_init_89 zp_Mo_init_174 (I9.2.1.ex n19.mo) (hle _ _) (by rw [List.length_map, List.length_range]; decide) hx (zNarA zRf_ref) (zFitA zRf_ref) (fun H20 o20 u20 => ?_)
  have I10 := I9.step hx0 hR (by decide) (by decide) g19 n19 hx u20 o20 (by decide) ml_17 (by decide) rfl rfl (by decide +kernel)
  refine sMo_init_92 zRf_ref (by decide) rfl (by decide) (hR.us I10.2.2.2.2.1 1 20 (by decide) (by decide)).1 (hR.us I10.2.2.2.2.1 1 20 (by decide) (by decide)).2 (fun H21 g21 n21 => ?_)
  refine zw_putf (k := 18) dMo_init_97 zp_Mo_init_171 (I10.2.1.ex n21.mo) (hle _ _) (by rw [List.length_map, List.length_range]; decide) hx (zNarA zRf_ref) (zFitA zRf_ref) (fun H22 o22 u22 => ?_)
  have I11 := I10.step hx0 hR (by decide) (by decide) g21 n21 hx u22 o22 (by decide) ml_18 (by decide) rfl rfl (by decide +kernel)
  refine sMo_init_100 zRf_ref (by decide) rfl (by decide) (hR.us I11.2.2.2.2.1 1 12 (by decide) (by decide)).1 (hR.us I11.2.2.2.2.1 1 12 (by decide) (by decide)).2 (fun H23 g23 n23 => ?_)
  refine zw_putf (k := 19) dMo_init_105 zp_Mo_init_177 (I11.2.1.ex n23.mo) (hle _ _) (by rw [List.length_map, List.length_range]; decide) hx (zNarA zRf_ref) (zFitA zRf_ref) (fun H24 o24 u24 => ?_)
  have I12 := I11.step hx0 hR (by decide) (by decide) g23 n23 hx u24 o24 (by decide) ml_19 (by decide) rfl rfl (by decide +kernel)
  refine sMo_init_108 zRf_ref (by decide) rfl (by decide) (hR.us I12.2.2.2.2.1 1 192 (by decide) (by decide)).1 (hR.us I12.2.2.2.2.1 1 192 (by decide) (by decide)).2 (fun H25 g25 n25 => ?_)
  refine zw_putf (k := 20) dMo_init_114 zp_Mo_init_186 (I12.2.1.ex n25.mo) (hle _ _) (by rw [List.length_map, List.length_range]; decide) hx (zNarA zRf_ref) (zFitA zRf_ref) (fun H26 o26 u26 => ?_)
  have I13 := I12.step hx0 hR (by decide) (by decide) g25 n25 hx u26 o26 (by decide) ml_20 (by decide) rfl rfl (by decide +kernel)
  refine sMo_init_117 zRf_ref (by decide) rfl (by decide) (hR.us I13.2.2.2.2.1 1 12 (by decide) (by decide)).1 (hR.us I13.2.2.2.2.1 1 12 (by decide) (by decide)).2 (fun H27 g27 n27 => ?_)
  refine zw_putf (k := 21) dMo_init_122 zp_Mo_init_180 (I13.2.1.ex n27.mo) (hle _ _) (by rw [List.length_map, List.length_range]; decide) hx (zNarA zRf_ref) (zFitA zRf_ref) (fun H28 o28 u28 => ?_)
  have I14 := I13.step hx0 hR (by decide) (by decide) g27 n27 hx u28 o28 (by decide) ml_21 (by decide) rfl rfl (by decide +kernel)
  refine sMo_init_125 zRf_ref (by decide) rfl (by decide) (hR.us I14.2.2.2.2.1 1 12 (by decide) (by decide)).1 (hR.us I14.2.2.2.2.1 1 12 (by decide) (by decide)).2 (fun H29 g29 n29 => ?_)
  refine zw_putf (k := 22) dMo_init_130 zp_Mo_init_183 (I14.2.1.ex n29.mo) (hle _ _) (by rw [List.length_map, List.length_range]; decide) hx (zNarA zRf_ref) (zFitA zRf_ref) (fun H30 o30 u30 => ?_)
  have I15 := I14.step hx0 hR (by decide) (by decide) g29 n29 hx u30 o30 (by decide) ml_22 (by decide) rfl rfl (by decide +kernel)
  refine sMo_init_133 zRf_ref (by decide) rfl (by decide) (hR.us I15.2.2.2.2.1 1 20 (by decide) (by decide)).1 (hR.us I15.2.2.2.2.1 1 20 (by decide) (by decide)).2 (fun H31 g31 n31 => ?_)
  refine zw_putf (k := 23) dMo_init_138 zp_Mo_init_189 (I15.2.1.ex n31.mo) (hle _ _) (by rw [List.length_map, List.length_range]; decide) hx (zNarA zRf_ref) (zFitA zRf_ref) (fun H32 o32 u32 => ?_)
  have I16 := I15.step hx0 hR (by decide) (by decide) g31 n31 hx u32 o32 (by decide) ml_23 (by decide) rfl rfl (by decide +kernel)
  refine sMo_init_141 zRf_ref (by decide) rfl (by decide) (hR.us I16.2.2.2.2.1 1 20 (by decide) (by decide)).1 (hR.us I16.2.2.2.2.1 1 20 (by decide) (by decide)).2 (fun H33 g33 n33 => ?_)
  refine zw_putf (k := 24) dMo_init_146 zp_Mo_init_193 (I16.2.1.ex n33.mo) (hle _ _) (by rw [List.length_map, List.length_range]; decide) hx (zNarA zRf_ref) (zFitA zRf_ref) (fun H34 o34 u34 => ?_)
  have I17 := I16.step hx0 hR (by decide) (by decide) g33 n33 hx u34 o34 (by decide) ml_24 (by decide) rfl rfl (by decide +kernel)
  refine sMo_init_149 zRf_ref (by decide) rfl (by decide) (hR.us I17.2.2.2.2.1 1 8 (by decide) (by decide)).1 (hR.us I17.2.2.2.2.1 1 8 (by decide) (by decide)).2 (fun H35 g35 n35 => ?_)
  refine zw_putf (k := 28) dMo_init_154 zp_Mo_init_226 (I17.2.1.ex n35.mo) (hle _ _) (by rw [List.length_map, List.length_range]; decide) hx (zNarA zRf_ref) (zFitA zRf_ref) (fun H36 o36 u36 => ?_)
  have I18 := I17.step hx0 hR (by decide) (by decide) g35 n35 hx u36 o36 (by decide) ml_28 (by decide) rfl rfl (by decide +kernel)
  refine sMo_init_157 zRf_ref (by decide) rfl (by decide) (hR.us I18.2.2.2.2.1 1 8 (by decide) (by decide)).1 (hR.us I18.2.2.2.2.1 1 8 (by decide) (by decide)).2 (fun H37 g37 n37 => ?_)
  refine zw_putf (k := 29) dMo_init_162 zp_Mo_init_223 (I18.2.1.ex n37.mo) (hle _ _) (by rw [List.length_map, List.length_range]; decide) hx (zNarA zRf_ref) (zFitA zRf_ref) (fun H38 o38 u38 => ?_)
  have I19 := I18.step hx0 hR (by decide) (by decide) g37 n37 hx u38 o38 (by decide) ml_29 (by decide) rfl rfl (by decide +kernel)
  refine sMo_init_165 zRf_ref (by decide) rfl (by decide) (hR.us I19.2.2.2.2.1 1 480 (by decide) (by decide)).1 (hR.us I19.2.2.2.2.1 1 480 (by decide) (by decide)).2 (fun H39 g39 n39 => ?_)
  refine zw_putf (k := 31) dMo_init_171 zp_Mo_init_202 (I19.2.1.ex n39.mo) (hle _ _) (by rw [List.length_map, List.length_range]; decide) hx (zNarA zRf_ref) (zFitA zRf_ref) (fun H40 o40 u40 => ?_)
  have I20 := I19.step hx0 hR (by decide) (by decide) g39 n39 hx u40 o40 (by decide) ml_31 (by decide) rfl rfl (by decide +kernel)
  refine sMo_init_174 zRf_ref (by decide) rfl (by decide) (hR.us I20.2.2.2.2.1 1 20 (by decide) (by decide)).1 (hR.us I20.2.2.2.2.1 1 20 (by decide) (by decide)).2 (fun H41 g41 n41 => ?_)
  refine zw_putf (k := 32) dMo_init_179 zp_Mo_init_199 (I20.2.1.ex n41.mo) (hle _ _) (by rw [List.length_map, List.length_range]; decide) hx (zNarA zRf_ref) (zFitA zRf_ref) (fun H42 o42 u42 => ?_)
  have I21 := I20.step hx0 hR (by decide) (by decide) g41 n41 hx u42 o42 (by decide) ml_32 (by decide) rfl rfl (by decide +kernel)
  refine sMo_init_182 zRf_ref (by decide) rfl (by decide) (hR.us I21.2.2.2.2.1 1 20 (by decide) (by decide)).1 (hR.us I21.2.2.2.2.1 1 20 (by decide) (by decide)).2 (fun H43 g43 n43 => ?_)
  refine zw_putf (k := 33) dMo_init_187 zp_Mo_init_205 (I21.2.1.ex n43.mo) (hle _ _) (by rw [List.length_map, List.length_range]; decide) hx (zNarA zRf_ref) (zFitA zRf_ref) (fun H44 o44 u44 => ?_)
  have I22 := I21.step hx0 hR (by decide) (by decide) g43 n43 hx u44 o44 (by decide) ml_33 (by decide) rfl rfl (by decide +kernel)
  refine sMo_init_190 zRf_ref (by decide) rfl (by decide) (hR.us I22.2.2.2.2.1 1 20 (by decide) (by decide)).1 (hR.us I22.2.2.2.2.1 1 20 (by decide) (by decide)).2 (fun H45 g45 n45 => ?_)
  refine zw_putf (k := 34) dMo_init_195 zp_Mo_init_208 (I22.2.1.ex n45.mo) (hle _ _) (by rw [List.length_map, List.length_range]; decide) hx (zNarA zRf_ref) (zFitA zRf_ref) (fun H46 o46 u46 => ?_)
  have I23 := I22.step hx0 hR (by decide) (by decide) g45 n45 hx u46 o46 (by decide) ml_34 (by decide) rfl rfl (by decide +kernel)
  refine sMo_init_198 zRf_ref (by decide) rfl (by decide) (hR.us I23.2.2.2.2.1 1 400 (by decide) (by decide)).1 (hR.us I23.2.2.2.2.1 1 400 (by decide) (by decide)).2 (fun H47 g47 n47 => ?_)
  refine zw_putf (k := 36) dMo_init_204 zp_Mo_init_211 (I23.2.1.ex n47.mo) (hle _ _) (by rw [List.length_map, List.length_range]; decide) hx (zNarA zRf_ref) (zFitA zRf_ref) (fun H48 o48 u48 => ?_)
  have I24 := I23.step hx0 hR (by decide) (by decide) g47 n47 hx u48 o48 (by decide) ml_36 (by decide) rfl rfl (by decide +kernel)
  refine sMo_init_207 zRf_ref (by decide) rfl (by decide) (hR.us I24.2.2.2.2.1 1 16 (by decide) (by decide)).1 (hR.us I24.2.2.2.2.1 1 16 (by decide) (by decide)).2 (fun H49 g49 n49 => ?_)
  refine zw_putf (k := 43) dMo_init_212 zp_Mo_init_136 (I24.2.1.ex n49.mo) (hle _ _) (by rw [List.length_map, List.length_range]; decide) hx (zNarA zRf_ref) (zFitA zRf_ref) (fun H50 o50 u50 => ?_)
  have I25 := I24.step hx0 hR (by decide) (by decide) g49 n49 hx u50 o50 (by decide) ml_43 (by decide) rfl rfl (by decide +kernel)
  refine sMo_init_215 zRf_ref (by decide) rfl (by decide) (hR.us I25.2.2.2.2.1 1 1500 (by decide) (by decide)).1 (hR.us I25.2.2.2.2.1 1 1500 (by decide) (by decide)).2 (fun H51 g51 n51 => ?_)
  refine zw_putf (k := 47) dMo_init_221 zp_Mo_init_265 (I25.2.1.ex n51.mo) (hle _ _) (by rw [List.length_map, List.length_range]; decide) hx (zNarA zRf_ref) (zFitA zRf_ref) (fun H52 o52 u52 => ?_)
  have I26 := I25.step hx0 hR (by decide) (by decide) g51 n51 hx u52 o52 (by decide) ml_47 (by decide) rfl rfl (by decide +kernel)
  exact kk _ I26
/-- where the cells lie -/
def mAd (x b k : Nat) : Nat := if mLn k = 0 then x else b + rk k
theorem pI.mem {H1 : Heap} {s : Nat} (h : pI G x H H1 26 s) (hx : zFr G x) (hx0 : x < H.size) (ho : zOk G H) : zM G (mAd x H.size) H1 (fun _ => 0, fun _ _ => 0) := by
  obtain ⟨h1, h2, h3, h4, h5, h6⟩ := h
  have e50 : mAd x H.size 50 = x := rfl
  have hrk : ∀ k, k < 51 → mLn k ≠ 0 → rk k < 26 := by decide +kernel
  have hinj : ∀ k, k < 51 → ∀ k', k' < 51 → mLn k ≠ 0 → mLn k' ≠ 0 → rk k = rk k' → k = k' := by decide +kernel
  have hfr : (zS G).heap.size ≤ H.size := ho.1
  refine ⟨⟨hx, fun k _ h0 => by unfold mAd; rw [if_pos h0]; rfl, fun k _ h0 => ?_, fun k k' hk hk' h0 h0' e => ?_⟩, ?_, fun k hk h0 => ?_⟩
  · rw [e50]
    unfold mAd
    rw [if_neg h0]
    exact ⟨show (zS G).heap.size ≤ _ by omega, (by omega)⟩
  · unfold mAd at e
    rw [if_neg h0, if_neg h0'] at e
    exact hinj k hk k' hk' h0 h0' (by omega)
  · rw [e50]
    have : (List.range 51).map (pFs H.size 26) = mFs (mAd x H.size) (fun _ => 0, fun _ _ => 0) := by
      unfold mFs
      apply List.map_congr_left
      intro k hk
      rw [List.mem_range] at hk
      unfold pFs mFv mAd
      by_cases h0 : mLn k = 0
      · rw [if_pos h0, if_pos h0]
      · rw [if_neg h0, if_neg h0, if_neg h0, if_pos (hrk k hk h0)]
    rw [← this]; exact h2
  · have := h3 k hk h0 (hrk k hk h0)
    unfold mAd
    rw [if_neg h0]
    exact this

theorem mi_tail {ad : Nat → Nat} (hC : zCs G) (hd : 1 ≤ d) : mW G d ad M_Mo_init 224 [some (.ref (ad 50))] [] (fun _ => 0, fun _ _ => 0) (mPv fun μ => mRel μ ([], [], zHome) ([], [], [], 0) (0, none, []) (zEmp, none, [], 0, false)) := by
  have s224 : ∀ {μ : zMm} {P : Option Value → zMm → Prop}, mW G d ad M_Mo_init 232 [some (.ref (ad 50))] [] (μ.1, updA μ.2 7 5 (nI 7)) P → mW G d ad M_Mo_init 224 [some (.ref (ad 50))] [] μ P := fun kk H0 H hM hm hu => zw_aload_n (i := 0) dMo_init_224 rfl rfl zRf_ref <| zw_getf dMo_init_225 zf_Mo_39 (hM.fa 7 (Nat.le_of_ble_eq_true rfl) mn_7) <| zw_iconst (nI 5) dMo_init_228 (by decide) <| zw_bipush (nI 7) dMo_init_229 (by decide) <| (mw_iast (M := M_Mo_init) (pc := 231) (k := 7) (i := 5) dMo_init_231 mk_7 rfl (by rw [ml_7]; decide) kk) H0 H hM hm hu
  have s232 : ∀ {μ : zMm} {P : Option Value → zMm → Prop}, mW G d ad M_Mo_init 242 [some (.ref (ad 50))] [] (μ.1, updA μ.2 6 750 (nI 47).toInt8.toInt32) P → mW G d ad M_Mo_init 232 [some (.ref (ad 50))] [] μ P := fun kk H0 H hM hm hu => zw_aload_n (i := 0) dMo_init_232 rfl rfl zRf_ref <| zw_getf dMo_init_233 zf_Mo_36 (hM.fa 6 (Nat.le_of_ble_eq_true rfl) mn_6) <| zw_sipush (nI 750) dMo_init_236 (by decide) <| zw_bipush (nI 47) dMo_init_239 (by decide) <| (mw_bast (M := M_Mo_init) (pc := 241) (k := 6) (i := 750) dMo_init_241 mk_6 rfl (by rw [ml_6]; decide) kk) H0 H hM hm hu
  have s242 : ∀ {μ : zMm} {P : Option Value → zMm → Prop}, mW G d ad M_Mo_init 252 [some (.ref (ad 50))] [] (μ.1, updA μ.2 6 751 (nI 47).toInt8.toInt32) P → mW G d ad M_Mo_init 242 [some (.ref (ad 50))] [] μ P := fun kk H0 H hM hm hu => zw_aload_n (i := 0) dMo_init_242 rfl rfl zRf_ref <| zw_getf dMo_init_243 zf_Mo_36 (hM.fa 6 (Nat.le_of_ble_eq_true rfl) mn_6) <| zw_sipush (nI 751) dMo_init_246 (by decide) <| zw_bipush (nI 47) dMo_init_249 (by decide) <| (mw_bast (M := M_Mo_init) (pc := 251) (k := 6) (i := 751) dMo_init_251 mk_6 rfl (by rw [ml_6]; decide) kk) H0 H hM hm hu
  have s252 : ∀ {μ : zMm} {P : Option Value → zMm → Prop}, mW G d ad M_Mo_init 262 [some (.ref (ad 50))] [] (μ.1, updA μ.2 6 752 (nI 104).toInt8.toInt32) P → mW G d ad M_Mo_init 252 [some (.ref (ad 50))] [] μ P := fun kk H0 H hM hm hu => zw_aload_n (i := 0) dMo_init_252 rfl rfl zRf_ref <| zw_getf dMo_init_253 zf_Mo_36 (hM.fa 6 (Nat.le_of_ble_eq_true rfl) mn_6) <| zw_sipush (nI 752) dMo_init_256 (by decide) <| zw_bipush (nI 104) dMo_init_259 (by decide) <| (mw_bast (M := M_Mo_init) (pc := 261) (k := 6) (i := 752) dMo_init_261 mk_6 rfl (by rw [ml_6]; decide) kk) H0 H hM hm hu
  have s262 : ∀ {μ : zMm} {P : Option Value → zMm → Prop}, mW G d ad M_Mo_init 272 [some (.ref (ad 50))] [] (μ.1, updA μ.2 6 753 (nI 111).toInt8.toInt32) P → mW G d ad M_Mo_init 262 [some (.ref (ad 50))] [] μ P := fun kk H0 H hM hm hu => zw_aload_n (i := 0) dMo_init_262 rfl rfl zRf_ref <| zw_getf dMo_init_263 zf_Mo_36 (hM.fa 6 (Nat.le_of_ble_eq_true rfl) mn_6) <| zw_sipush (nI 753) dMo_init_266 (by decide) <| zw_bipush (nI 111) dMo_init_269 (by decide) <| (mw_bast (M := M_Mo_init) (pc := 271) (k := 6) (i := 753) dMo_init_271 mk_6 rfl (by rw [ml_6]; decide) kk) H0 H hM hm hu
  have s272 : ∀ {μ : zMm} {P : Option Value → zMm → Prop}, mW G d ad M_Mo_init 282 [some (.ref (ad 50))] [] (μ.1, updA μ.2 6 754 (nI 109).toInt8.toInt32) P → mW G d ad M_Mo_init 272 [some (.ref (ad 50))] [] μ P := fun kk H0 H hM hm hu => zw_aload_n (i := 0) dMo_init_272 rfl rfl zRf_ref <| zw_getf dMo_init_273 zf_Mo_36 (hM.fa 6 (Nat.le_of_ble_eq_true rfl) mn_6) <| zw_sipush (nI 754) dMo_init_276 (by decide) <| zw_bipush (nI 109) dMo_init_279 (by decide) <| (mw_bast (M := M_Mo_init) (pc := 281) (k := 6) (i := 754) dMo_init_281 mk_6 rfl (by rw [ml_6]; decide) kk) H0 H hM hm hu
  have s282 : ∀ {μ : zMm} {P : Option Value → zMm → Prop}, mW G d ad M_Mo_init 292 [some (.ref (ad 50))] [] (μ.1, updA μ.2 6 755 (nI 101).toInt8.toInt32) P → mW G d ad M_Mo_init 282 [some (.ref (ad 50))] [] μ P := fun kk H0 H hM hm hu => zw_aload_n (i := 0) dMo_init_282 rfl rfl zRf_ref <| zw_getf dMo_init_283 zf_Mo_36 (hM.fa 6 (Nat.le_of_ble_eq_true rfl) mn_6) <| zw_sipush (nI 755) dMo_init_286 (by decide) <| zw_bipush (nI 101) dMo_init_289 (by decide) <| (mw_bast (M := M_Mo_init) (pc := 291) (k := 6) (i := 755) dMo_init_291 mk_6 rfl (by rw [ml_6]; decide) kk) H0 H hM hm hu
  have s292 : ∀ {μ : zMm} {P : Option Value → zMm → Prop}, mW G d ad M_Mo_init 302 [some (.ref (ad 50))] [] (μ.1, updA μ.2 6 756 (nI 47).toInt8.toInt32) P → mW G d ad M_Mo_init 292 [some (.ref (ad 50))] [] μ P := fun kk H0 H hM hm hu => zw_aload_n (i := 0) dMo_init_292 rfl rfl zRf_ref <| zw_getf dMo_init_293 zf_Mo_36 (hM.fa 6 (Nat.le_of_ble_eq_true rfl) mn_6) <| zw_sipush (nI 756) dMo_init_296 (by decide) <| zw_bipush (nI 47) dMo_init_299 (by decide) <| (mw_bast (M := M_Mo_init) (pc := 301) (k := 6) (i := 756) dMo_init_301 mk_6 rfl (by rw [ml_6]; decide) kk) H0 H hM hm hu
  have s302 : ∀ {μ : zMm} {P : Option Value → zMm → Prop} {P2 : zMm → Prop}, mC G (d - 1) ad M_Mo_copyRow [(.ref (ad 50)), (.int (nI 1)), (.int (nI 5))] μ (mPv P2) → (∀ μ1, P2 μ1 → mW G d ad M_Mo_init 308 [some (.ref (ad 50))] [] μ1 P) → mW G d ad M_Mo_init 302 [some (.ref (ad 50))] [] μ P := fun hc kk H0 H hM hm hu => zw_aload_n (i := 0) dMo_init_302 rfl rfl zRf_ref <| zw_iconst (nI 1) dMo_init_303 (by decide) <| zw_iconst (nI 5) dMo_init_304 (by decide) <| zw_callV [(.int (nI 1)), (.int (nI 5))] _ dMo_init_305 hd zk_Mo_148 hM.is rfl rfl (Nat.le_of_ble_eq_true rfl) (hc H hM) (mPv_k kk hm hu)
  refine s224 (s232 (s242 (s252 (s262 (s272 (s282 (s292 (s302 (mc_copyRow hC (to := 1) (fr := 5) (by decide) (by decide) (by decide)) ?_))))))))
  rintro μ1 ⟨c1, c2, c3⟩
  dsimp only at c1 c2 c3
  have z0 : (0 : Int32) = nI 0 := by decide
  have i1 : ∀ k, μ1.1 k = nI 0 := fun k => (c1.1 k List.not_mem_nil).trans z0
  generalize hB : updA (updA (updA (updA (updA (updA (updA (updA (fun _ _ => (0 : Int32)) 7 5 (nI 7)) 6 750 (nI 47).toInt8.toInt32) 6 751 (nI 47).toInt8.toInt32) 6 752 (nI 104).toInt8.toInt32) 6 753 (nI 111).toInt8.toInt32) 6 754 (nI 109).toInt8.toInt32) 6 755 (nI 101).toInt8.toInt32) 6 756 (nI 47).toInt8.toInt32 = B at c1 c2 c3
  have b7 : B 7 5 = nI 7 := by rw [← hB]; decide
  have b8 : B 8 5 = nI 0 := by rw [← hB]; decide
  have b6 : ∀ j, j < 7 → B 6 (5 * 150 + j) = nI ((zPl zHome).getD j 0) := by rw [← hB]; decide
  have P5 : mPw (fun _ => 0, B) 5 (zPl zHome) := ⟨b7, fun j hj => b6 j hj, by decide, zHome_wf.lo⟩
  have M5 : mMk (fun _ => 0, B) 5 [] := ⟨b8, (fun j hj => absurd hj (Nat.not_lt_zero _)), Nat.zero_le _, (fun c hc => by cases hc)⟩
  have no : ∀ {α : Type} {P : Nat → Prop}, ∀ i, i < ([] : List α).length → P i := fun i hi => absurd hi (Nat.not_lt_zero _)
  intro H0 H hM hm hu
  refine zw_vret dMo_init_308 rfl ⟨μ1, ⟨rfl, ?_⟩, hM, hm, hu⟩
  refine ⟨⟨i1 1, (fun j hj => absurd hj (Nat.not_lt_zero _)), Nat.zero_le _, (fun c hc => by cases hc)⟩, ⟨i1 5, (fun j hj => absurd hj (Nat.not_lt_zero _)), (fun c hc => by cases hc), Nat.zero_le _⟩, ⟨c2 _ P5, c3 _ M5⟩, P5.ra (c1.2.2 5 (by decide)), ⟨i1 16, (fun i hi => absurd hi (Nat.not_lt_zero _))⟩, ⟨i1 30, (fun i hi => absurd hi (Nat.not_lt_zero _))⟩, ⟨[], 0, rfl, i1 26, i1 27, Nat.le_refl _, List.Pairwise.nil, (fun e he => by cases he), (fun s hs => absurd hs (Nat.not_lt_zero _))⟩, i1 25, ⟨i1 35, ⟨fun _ => rfl, fun _ => rfl⟩, (fun b hb => by cases hb), i1 37, (fun j hj => absurd hj (Nat.not_lt_zero _)), (fun c hc => by cases hc), Nat.zero_le _⟩, ⟨i1 48, (fun j hj => absurd hj (Nat.not_lt_zero _)), (i1 49).trans (by decide), (i1 50).trans (by decide), (fun b hb => by cases hb), fun _ => ⟨rfl, rfl⟩⟩⟩
theorem c_Mo_init (hC : zCs G) (hd : 1 ≤ d) (hx : zFr G x) (hO : zObj G H x 13 ((List.range 51).map (pFs H.size 0))) (hR : zRm G H 26 61192) : zC G d M_Mo_init [.ref x] H (zPv fun H1 => ∃ ad μ, ad 50 = x ∧ zM G ad H1 μ ∧ mRel μ ([], [], zHome) ([], [], [], 0) (0, none, []) (zEmp, none, [], 0, false) ∧ (∀ q ∈ mL ad, q = x ∨ (H.size ≤ q ∧ q < H1.size)) ∧ zMo [x] H H1 ∧ zUs 26 61192 H H1) := by
  have hx0 := hO.lt
  refine zC_in [some (.ref x)] pn_Mo_init hC.1 rfl (Nat.le_of_ble_eq_true rfl) rfl (fun ho => ?_)
  refine sMo_init_0 (by omega) (Nat.le_of_ble_eq_true rfl) ?_
  refine mi_arrays hC hx hx0 hO hR ho (fun H1 h1 => ?_)
  have hM := h1.mem hx hx0 ho
  have hL : ∀ q ∈ mL (mAd x H.size), q = x ∨ (H.size ≤ q ∧ q < H1.size) := by
    intro q hq
    obtain ⟨k, hk, rfl⟩ := List.mem_map.mp hq
    rw [List.mem_range] at hk
    have hrk : ∀ k, k < 51 → mLn k ≠ 0 → rk k < 26 := by decide +kernel
    have := h1.1
    unfold mAd
    by_cases h0 : mLn k = 0
    · rw [if_pos h0]; exact Or.inl rfl
    · rw [if_neg h0]
      have := hrk k hk h0
      exact Or.inr ⟨(by omega), (by omega)⟩
  refine zW_mono (mi_tail (ad := mAd x H.size) hC hd H1 H1 hM zMo.rf zUs.rf) ?_
  rintro v H2 ⟨μ, ⟨rfl, hr⟩, m2, mo2, us2⟩
  refine ⟨rfl, mAd x H.size, μ, rfl, m2, hr, fun q hq => ?_, ?_, h1.2.2.2.2.1.tr us2 (Nat.le_refl _) (Nat.le_refl _)⟩
  · rcases hL q hq with w | ⟨w1, w2⟩
    · exact Or.inl w
    · exact Or.inr ⟨w1, Nat.lt_of_lt_of_le w2 mo2.1⟩
  · refine h1.2.2.2.1.tr mo2 (fun q z => Or.inl z) (fun q z => ?_)
    rcases hL q z with w | ⟨w1, w2⟩
    · rw [w]; exact Or.inl mem1
    · exact Or.inr w1
end ND
