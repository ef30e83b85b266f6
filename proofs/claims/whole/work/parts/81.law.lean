/-! The law: both sides, call by call. -/
def lPm (G : zG) (ad : Nat → Nat) (H : Heap) (o : zOo) : Int32 → Heap → Prop := fun r H1 => r = o.1 ∧ ∃ μ' : zMm, mRel μ' o.2.1 o.2.2.1 o.2.2.2.1 o.2.2.2.2 ∧ zM G ad H1 μ' ∧ zMo (mL ad) H H1 ∧ zUs 0 0 H H1
theorem mC.toC {G : zG} {d : Nat} {ad : Nat → Nat} {M : zMd} {av : List Value} {μ : zMm} {H : Heap} {o : zOo} (h : mC G d ad M av μ (mPo o)) (hM : zM G ad H μ) : zC G d M av H (zPi (lPm G ad H o)) := by
  refine zC_mono (h H hM) ?_
  rintro v H1 ⟨μ', ⟨r, rfl, hr, hrel⟩, h2, h3, h4⟩
  exact ⟨r, rfl, hr, μ', hrel, h2, h3, h4⟩
def zInv (G : zG) (K ad : Nat → Nat) (B S k : Nat) (H : Heap) : Prop := ∃ (R : Nat → List Nat) (M : Nat → Nat) (μ : zMm) (T : zTT) (D : zDD) (Q : zRR) (C : zCC), zDk G K R M H T D Q C ∧ R 7 = mL ad ∧ zM G ad H μ ∧ mRel μ T D Q C ∧ zSk k T D Q C ∧ H.size + 18 * T.1.length ≤ B + 590 * k + zPh M ∧ zT H + 91 * T.1.length ≤ S + 5750 * k + 4 * zPh M
section NF
variable {G : zG} {d k B S : Nat} {K ad : Nat → Nat} {R : Nat → List Nat} {M : Nat → Nat} {μ : zMm} {T : zTT} {D : zDD} {Q : zRR} {C : zCC} {H H1 H2 : Heap} {o : zOo}
theorem la_mem {R' : Nat → List Nat} {M' : Nat → Nat} {cc ss : Nat} (h : zDk G K R M H T D Q C) (h7 : R 7 = mL ad) (hM : zM G ad H μ) (sx : zSx R M H R' M' cc ss H1) : zM G ad H1 μ := hM.mo sx.2.2.1 (fun q hq z => by
  obtain ⟨i, hi, hq⟩ := zR6_of hq
  exact h.1.2 i 7 (by omega) (by omega) (by omega) q hq (by rw [h7]; exact z))
theorem la_next {R' : Nat → List Nat} {M' : Nat → Nat} {cc ss n' : Nat} {r : Int32} (h7 : R 7 = mL ad) (b1 : H.size + 18 * T.1.length ≤ B + 590 * k + zPh M) (b2 : zT H + 91 * T.1.length ≤ S + 5750 * k + 4 * zPh M) (D1 : zDk G K R' M' H1 o.2.1 o.2.2.1 o.2.2.2.1 o.2.2.2.2) (sx : zSx R M H R' M' cc ss H1) (hm : lPm G ad H1 o r H2) (hso : zSo k n' o) (c1 : cc + 18 * n' ≤ 18 * T.1.length + 590) (c2 : ss + 91 * n' ≤ 91 * T.1.length + 5750) (ok1 : zOk G H1) (ok2 : zOk G H2) : zInv G K ad B S (k + 1) H2 := by
  obtain ⟨-, μ', hrel, hM', hmo, hus⟩ := hm
  have h7' : R' 7 = mL ad := sx.2.1.trans h7
  obtain ⟨f0, f1, f2, f3, f4, f5, f6, f7, f8, f9⟩ := D1.frame (c := 7) (R' := R') (H1 := H2) (by omega) (by rw [h7']; exact hmo) zRs.rf ok1 ok2
  obtain ⟨s1, s2⟩ := sx.2.2.2.2
  have s3 := sx.2.2.2.1
  have hn' := hso.2
  have u1 := hus.1
  have u2 := hus.2
  refine ⟨R', M', μ', _, _, _, _, ⟨f0, f1, f2 (by decide), f3 (by decide), f4 (by decide), f5 (by decide), f6 (by decide), f7 (by decide), f8 (by decide), f9⟩, h7', hM', hrel, hso.1, ?_, ?_⟩
  · omega
  · omega
theorem la_room (h : zDk G K R M H T D Q C) (hk : k < 512) (b1 : H.size + 18 * T.1.length ≤ B + 590 * k + zPh M) (b2 : zT H + 91 * T.1.length ≤ S + 5750 * k + 4 * zPh M) (hB : B + 380000 ≤ zCp G) (hS : S + 3400000 ≤ zSp G) {c s : Nat} (hc : c ≤ 50000) (hs : s ≤ 300000) : zRm G H c s := by
  have := h.ph
  exact ⟨(by omega), (by omega)⟩
end NF
theorem cf1 (n : Nat) : 0 + 18 * (n + 20) ≤ 18 * n + 590 := by omega
theorem cf2 (n : Nat) : 0 + 91 * (n + 20) ≤ 91 * n + 5750 := by omega
section NG
variable {G : zG} {d B S L b : Nat} {K ad : Nat → Nat} {xs : Nat → Int32} {nm : String}
theorem la_loop (hC : zCv G) (hd : 14 ≤ d) (hsc : ∀ {H : Heap}, zOk G H → zArr G H b .int L (fun j => .int (xs j))) (hL : L ≤ 3072) (hB : B + 380000 ≤ zCp G) (hS : S + 3400000 ≤ zSp G) : ∀ n k (H : Heap), L ≤ 6 * k + n → 6 * k ≤ L → zOk G H → zInv G K ad B S k H → zW G d (M_La nm) 18 [some (.ref b), some (.ref (K 0)), some (.ref (ad 50)), some (.int (nI (6 * k)))] [] H (fun v _ => v = some (.int 1)) := by
  have hCs := hC.1.1
  have fin : ∀ {H : Heap} {o3 : Option Value}, zW G d (M_La nm) 368 [some (.ref b), some (.ref (K 0)), some (.ref (ad 50)), o3] [] H (fun v _ => v = some (.int 1)) := sLa_law_368 rfl rfl
  intro n
  induction n with
  | zero =>
    intro k H hn hk ok hI
    refine sLa_law_18 (hsc ok) (fun _ => fin) (fun z => absurd ?_ z)
    by_cases q : L < 6
    · have hk0 : k = 0 := (by omega)
      subst hk0
      have : L = 0 := (by omega)
      subst this
      decide
    · have e : nI L - (6 : Int32) = nI (L - 6) := pk_sub (b := 6) (by omega)
      rw [e]
      exact nI_lt (by omega) (by omega)
  | succ n ih =>
    intro k H hn hk ok hI
    by_cases q6 : 6 * k + 6 ≤ L
    · have hk5 : k < 512 := (by omega)
      refine sLa_law_18 (hsc ok) (fun _ => fin) (fun _ => ?_)
      have next : ∀ H2, zOk G H2 → zInv G K ad B S (k + 1) H2 → zW G d (M_La nm) 362 [some (.ref b), some (.ref (K 0)), some (.ref (ad 50)), some (.int (nI (6 * k)))] [] H2 (fun v _ => v = some (.int 1)) := fun H2 ok2 hI2 => by
        refine sLa_law_362 ?_
        have e : nI (6 * k) + (6 : Int32) = nI (6 * (k + 1)) := nI_add (6 * k) 6
        rw [e]
        exact ih (k + 1) H2 (by omega) (by omega) ok2 hI2
      have vi : ∀ j, j < 6 → vp_in (nI (6 * k + j)) L := fun j hj => vp_in_nI (by omega) (by omega)
      have v0 : vp_in (nI (6 * k)) L := vi 0 (by decide)
      have v1 : vp_in (nI (6 * k) + (1 : Int32)) L := by rw [show nI (6 * k) + (1 : Int32) = nI (6 * k + 1) from nI_add _ 1]; exact vi 1 (by decide)
      have v2 : vp_in (nI (6 * k) + (2 : Int32)) L := by rw [show nI (6 * k) + (2 : Int32) = nI (6 * k + 2) from nI_add _ 2]; exact vi 2 (by decide)
      have v3 : vp_in (nI (6 * k) + (3 : Int32)) L := by rw [show nI (6 * k) + (3 : Int32) = nI (6 * k + 3) from nI_add _ 3]; exact vi 3 (by decide)
      have v4 : vp_in (nI (6 * k) + (4 : Int32)) L := by rw [show nI (6 * k) + (4 : Int32) = nI (6 * k + 4) from nI_add _ 4]; exact vi 4 (by decide)
      have v5 : vp_in (nI (6 * k) + (5 : Int32)) L := by rw [show nI (6 * k) + (5 : Int32) = nI (6 * k + 5) from nI_add _ 5]; exact vi 5 (by decide)
      obtain ⟨R, M, μ, T, D, Q, C, hD, h7, hM, hR, hs, b1, b2⟩ := id hI
      have hsw := hs.1
      have tn := hsw.1
      have hQ6 : Q.1 < 2 ^ 29 - 6 := by have := hs.2.2; omega
      have rm : ∀ {c s : Nat}, c ≤ 50000 → s ≤ 300000 → zRm G H c s := fun hc hs => la_room hD hk5 b1 b2 hB hS hc hs
      refine sLa_law_27 (hsc ok) v0 (fun _ => ?_) (fun _ => ?_) (fun _ => ?_) (fun _ => ?_) (fun _ => ?_) (fun _ => ?_) (fun _ => ?_) (fun _ => ?_) (fun _ => ?_) (fun _ => ?_) (fun _ => ?_) (fun _ => ?_) ?_
      · refine sLa_law_96 (hsc ok) v1 (hsc ok) v2 (hsc ok) v3 (hsc ok) v4 (hsc ok) v5 (by omega) (Nat.le_of_ble_eq_true rfl) hD.is (c_N_feed hC (by omega) hD tn (rm (by omega) (by omega)) _ _ _ _ _) ?_
        rintro r H1 ⟨rfl, R', M', D1, sx⟩ ok1 - -
        have hM1 := la_mem hD h7 hM sx
        refine sLa_law_125 (hsc ok1) v1 (hsc ok1) v2 (hsc ok1) v3 (hsc ok1) v4 (hsc ok1) v5 (by omega) (Nat.le_of_ble_eq_true rfl) hM1.is ((mc_feed hCs (by omega) hR hsw _ _ _ _ _).toC hM1) ?_
        rintro r H2 hm ok2 - -
        exact sLa_law_154 (fun _ => next H2 ok2 (la_next (n' := T.1.length + 20) (cc := 0) (ss := 0) h7 b1 b2 D1 sx hm (so_feed hs _ _ _ _ _) (cf1 _) (cf2 _) ok1 ok2)) (fun z => absurd hm.1.symm z)
      · refine sLa_law_159 (hsc ok) v1 (by omega) (Nat.le_of_ble_eq_true rfl) hD.is (c_N_end hC (by omega) hD tn _) ?_
        rintro r H1 ⟨rfl, R', M', D1, sx⟩ ok1 - -
        have hM1 := la_mem hD h7 hM sx
        refine sLa_law_168 (hsc ok1) v1 (by omega) (Nat.le_of_ble_eq_true rfl) hM1.is ((mc_end hCs hR hsw _).toC hM1) ?_
        rintro r H2 hm ok2 - -
        exact sLa_law_177 (fun _ => next H2 ok2 (la_next h7 b1 b2 D1 sx hm (so_end hs _) (by omega) (by omega) ok1 ok2)) (fun z => absurd hm.1.symm z)
      · refine sLa_law_182 (hsc ok) v1 (by omega) (Nat.le_of_ble_eq_true rfl) hD.is (c_N_out hC (by omega) hD _) ?_
        rintro r H1 ⟨rfl, R', M', D1, sx⟩ ok1 - -
        have hM1 := la_mem hD h7 hM sx
        refine sLa_law_191 (hsc ok1) v1 (by omega) (Nat.le_of_ble_eq_true rfl) hM1.is ((mc_out hCs hR _).toC hM1) ?_
        rintro r H2 hm ok2 - -
        exact sLa_law_200 (fun _ => next H2 ok2 (la_next h7 b1 b2 D1 sx hm (so_out hs _) (by omega) (by omega) ok1 ok2)) (fun z => absurd hm.1.symm z)
      · refine sLa_law_205 (by omega) (Nat.le_of_ble_eq_true rfl) hD.is (c_N_resolve hC (by omega) hD tn hsw.2.1 (rm (by omega) (by omega))) ?_
        rintro r H1 ⟨rfl, R', M', D1, sx⟩ ok1 - -
        have hM1 := la_mem hD h7 hM sx
        refine sLa_law_209 (by omega) (Nat.le_of_ble_eq_true rfl) hM1.is ((mc_resolve hCs (by omega) hR hsw).toC hM1) ?_
        rintro r H2 hm ok2 - -
        exact sLa_law_213 (fun _ => next H2 ok2 (la_next h7 b1 b2 D1 sx hm (so_resolve hs) (by omega) (by omega) ok1 ok2)) (fun z => absurd hm.1.symm z)
      · refine sLa_law_218 (by omega) (Nat.le_of_ble_eq_true rfl) hD.is (c_N_base hC (by omega) hD tn hsw.2.1 (rm (by omega) (by omega))) ?_
        rintro r H1 ⟨rfl, R', M', D1, sx⟩ ok1 - -
        have hM1 := la_mem hD h7 hM sx
        refine sLa_law_222 (by omega) (Nat.le_of_ble_eq_true rfl) hM1.is ((mc_base hCs (by omega) hR hsw).toC hM1) ?_
        rintro r H2 hm ok2 - -
        exact sLa_law_226 (fun _ => next H2 ok2 (la_next h7 b1 b2 D1 sx hm (so_base hs) (by omega) (by omega) ok1 ok2)) (fun z => absurd hm.1.symm z)
      · refine sLa_law_231 (by omega) (Nat.le_of_ble_eq_true rfl) hD.is (c_N_server hC (by omega) hD tn hsw.2.2.1 (rm (by omega) (by omega))) ?_
        rintro r H1 ⟨rfl, R', M', D1, sx⟩ ok1 - -
        have hM1 := la_mem hD h7 hM sx
        refine sLa_law_235 (by omega) (Nat.le_of_ble_eq_true rfl) hM1.is ((mc_server hCs (by omega) hR hsw).toC hM1) ?_
        rintro r H2 hm ok2 - -
        exact sLa_law_239 (fun _ => next H2 ok2 (la_next h7 b1 b2 D1 sx hm (so_server hs) (by omega) (by omega) ok1 ok2)) (fun z => absurd hm.1.symm z)
      · refine sLa_law_244 (by omega) (Nat.le_of_ble_eq_true rfl) hD.is (c_N_fetch hC (by omega) hD tn hsw.2.1 hsw.2.2.1 hsw.2.2.2.1 (rm (by omega) (by omega))) ?_
        rintro r H1 ⟨rfl, R', M', D1, sx⟩ ok1 - -
        have hM1 := la_mem hD h7 hM sx
        refine sLa_law_248 (by omega) (Nat.le_of_ble_eq_true rfl) hM1.is ((mc_fetch hCs (by omega) hR hsw hQ6).toC hM1) ?_
        rintro r H2 hm ok2 - -
        exact sLa_law_252 (fun _ => next H2 ok2 (la_next h7 b1 b2 D1 sx hm (so_fetch hk5 hs) (by omega) (by omega) ok1 ok2)) (fun z => absurd hm.1.symm z)
      · refine sLa_law_257 (hsc ok) v1 (by omega) (Nat.le_of_ble_eq_true rfl) hD.is (c_N_body hC (by omega) hD _) ?_
        rintro r H1 ⟨rfl, R', M', D1, sx⟩ ok1 - -
        have hM1 := la_mem hD h7 hM sx
        refine sLa_law_266 (hsc ok1) v1 (by omega) (Nat.le_of_ble_eq_true rfl) hM1.is ((mc_body hCs hR hsw _).toC hM1) ?_
        rintro r H2 hm ok2 - -
        exact sLa_law_275 (fun _ => next H2 ok2 (la_next h7 b1 b2 D1 sx hm (so_body hs _) (by omega) (by omega) ok1 ok2)) (fun z => absurd hm.1.symm z)
      · refine sLa_law_280 (hsc ok) v1 (by omega) (Nat.le_of_ble_eq_true rfl) hD.is (c_N_tick hC hD hsw.2.2.2.1.1 _) ?_
        rintro r H1 ⟨rfl, R', M', D1, sx⟩ ok1 - -
        have hM1 := la_mem hD h7 hM sx
        refine sLa_law_289 (hsc ok1) v1 (by omega) (Nat.le_of_ble_eq_true rfl) hM1.is ((mc_tick hCs hR hsw _).toC hM1) ?_
        rintro r H2 hm ok2 - -
        exact sLa_law_298 (fun _ => next H2 ok2 (la_next h7 b1 b2 D1 sx hm (so_tick hk5 hs _) (by omega) (by omega) ok1 ok2)) (fun z => absurd hm.1.symm z)
      · refine sLa_law_303 (by omega) (Nat.le_of_ble_eq_true rfl) hD.is (c_N_forget hC (by omega) hD tn hsw.2.2.1 (rm (by omega) (by omega))) ?_
        rintro r H1 ⟨rfl, R', M', D1, sx⟩ ok1 - -
        have hM1 := la_mem hD h7 hM sx
        refine sLa_law_307 (by omega) (Nat.le_of_ble_eq_true rfl) hM1.is ((mc_forget hCs (by omega) hR hsw).toC hM1) ?_
        rintro r H2 hm ok2 - -
        exact sLa_law_311 (fun _ => next H2 ok2 (la_next h7 b1 b2 D1 sx hm (so_forget hs) (by omega) (by omega) ok1 ok2)) (fun z => absurd hm.1.symm z)
      · have hfm : C.2.2.1.length ≤ 9 := by
          rcases hsw.2.2.2.2.2.2.2.2.2.1 with e | ⟨m, e, e2⟩
          · rw [e]; exact Nat.zero_le _
          · rw [e, List.length_cons]
            have := (zNm_all e2).2.1
            omega
        have hsn := hsw.2.2.2.2.2.2.1
        refine sLa_law_316 (hsc ok) v1 (by omega) (Nat.le_of_ble_eq_true rfl) hD.is (c_N_write hC (by omega) hD hsw.2.1 hsw.2.2.2.2.2.1 hsw.2.2.2.2.2.2.2.2.1 hfm (by omega) (rm (by omega) (by omega)) _) ?_
        rintro r H1 ⟨rfl, R', M', D1, sx⟩ ok1 - -
        have hM1 := la_mem hD h7 hM sx
        refine sLa_law_325 (hsc ok1) v1 (by omega) (Nat.le_of_ble_eq_true rfl) hM1.is ((mc_write hCs (by omega) hR hsw _).toC hM1) ?_
        rintro r H2 hm ok2 - -
        exact sLa_law_334 (fun _ => next H2 ok2 (la_next h7 b1 b2 D1 sx hm (so_write hs _) (by omega) (by omega) ok1 ok2)) (fun z => absurd hm.1.symm z)
      · refine sLa_law_339 (hsc ok) v1 (by omega) (Nat.le_of_ble_eq_true rfl) hD.is (c_N_count hC (by omega) hD _) ?_
        rintro r H1 ⟨rfl, R', M', D1, sx⟩ ok1 - -
        have hM1 := la_mem hD h7 hM sx
        refine sLa_law_348 (hsc ok1) v1 (by omega) (Nat.le_of_ble_eq_true rfl) hM1.is ((mc_count hCs hR _).toC hM1) ?_
        rintro r H2 hm ok2 - -
        exact sLa_law_357 (fun _ => next H2 ok2 (la_next h7 b1 b2 D1 sx hm (so_count hs _) (by omega) (by omega) ok1 ok2)) (fun z => absurd hm.1.symm z)
      · exact fun _ => next H ok ⟨R, M, μ, T, D, Q, C, hD, h7, hM, hR, hs.mono, (by omega), (by omega)⟩
    · refine sLa_law_18 (hsc ok) (fun _ => fin) (fun z => absurd ?_ z)
      by_cases q : L < 6
      · have hk0 : k = 0 := (by omega)
        subst hk0
        rcases (show L = 0 ∨ L = 1 ∨ L = 2 ∨ L = 3 ∨ L = 4 ∨ L = 5 by omega) with rfl | rfl | rfl | rfl | rfl | rfl <;> decide
      · have e : nI L - (6 : Int32) = nI (L - 6) := pk_sub (b := 6) (by omega)
        rw [e]
        exact nI_lt (by omega) (by omega)
end NG
