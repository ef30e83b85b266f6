/-! The model's request. -/
def rIn (μ : zMm) (D : zDD) (Q : zRR) : Prop := rA μ D.1 ∧ rC μ D.2.1 ∧ rK μ Q.1 D.2.2.1 ∧ μ.1 25 = nI D.2.2.2 ∧ rQ μ Q
abbrev fI : List Nat := [26, 27, 30, 35, 37, 44, 45, 46]
abbrev aI : List Nat := [26, 27, 30, 35, 37, 44]
abbrev fA : List Nat := [17, 18, 23, 24, 28, 29, 31, 32, 33, 34, 36]
/-- what was got -/
def mGt (μ : zMm) (x : Option zAn) : Prop := (x = none → μ.1 44 = -1) ∧ ∀ α, x = some α → ∃ g, μ.1 44 = nI g ∧ g < 20 ∧ mSv μ g (6 + g) (46 + g) α
theorem rA.sm {μ μ' : zMm} {as : List zAn} (h : rA μ as) (hl : as.length ≤ 12) (hw : ∀ a ∈ as, zAnW a) (f : mFm [26, 27] [17, 18, 23, 24, 28, 29] kRw μ μ') (m : ∀ i, i < 12 → mSm μ μ' i) : rA μ' as := by
  refine ⟨(f.1 16 (by decide)).trans h.1, fun i hi => ?_⟩
  obtain ⟨a, b⟩ := h.2 i hi
  exact ⟨a.sm (hw _ (List.getElem_mem _)) (m i (by omega)) (f.2.2 _ (by simp only [List.mem_cons, List.not_mem_nil, or_false]; omega)) (f.2.2 _ (by simp only [List.mem_cons, List.not_mem_nil, or_false]; omega)), b.fm f (by decide) (by decide) (by decide) (by decide)⟩
/-- other ints, rows 2 and 4 -/
theorem rIn.fm {μ μ' : zMm} {I Ar Rw : List Nat} {D : zDD} {Q : zRR} (h : rIn μ D Q) (hD : zDDW D) (f : mFm I Ar Rw μ μ') (hI : ∀ k ∈ I, k ∈ [44, 45, 46, 48, 49, 50]) (hA : ∀ k ∈ Ar, k ∈ [47]) (hR : ∀ k ∈ Rw, k ∈ [0, 3, 4, 26]) : rIn μ' D Q := by
  obtain ⟨h1, h2, h3, h4, h5⟩ := h
  have i : ∀ k, k ∉ [44, 45, 46, 48, 49, 50] → k ∉ I := fun k hk z => hk (hI k z)
  have a : ∀ k, k ∉ [47] → k ∉ Ar := fun k hk z => hk (hA k z)
  have r : ∀ k, k ∉ [0, 3, 4, 26] → k ∉ Rw := fun k hk z => hk (hR k z)
  exact ⟨h1.fm f hD.2.1 (i 16 (by decide)) (fun k a1 a2 => a k (by simp only [List.mem_cons, List.not_mem_nil, or_false]; omega)) (fun k hk => r k (by simp only [List.mem_cons, List.not_mem_nil, or_false]; omega)), h2.fm f (i 30 (by decide)) (fun k a1 a2 => a k (by simp only [List.mem_cons, List.not_mem_nil, or_false]; omega)), h3.fm f hD.2.2.2.2.2.2.1 (i 26 (by decide)) (i 27 (by decide)) (a 17 (by decide)) (a 18 (by decide)) (a 23 (by decide)) (a 24 (by decide)) (a 28 (by decide)) (a 29 (by decide)) (fun k hk => r k (by simp only [List.mem_cons, List.not_mem_nil, or_false]; omega)), (f.1 25 (i 25 (by decide))).trans h4, h5.fm f (i 35 (by decide)) (i 37 (by decide)) (a 36 (by decide)) (r 2 (by decide))⟩
theorem as_fi {as : List zAn} {p : List Nat} (hp : as.Pairwise (fun a b => zPl a.1 ≠ zPl b.1)) {i : Nat} (hi : i < as.length) (he : zPl as[i].1 = p) : zFi (zAsp p) as = i := by
  rw [List.pairwise_iff_getElem] at hp
  refine fi_eq (by omega) (fun j hj hji => ?_) (fun h => ?_)
  · unfold zAsp
    exact beq_eq_false_iff_ne.mpr (fun z => hp j i hj hi hji (z.trans he.symm))
  · unfold zAsp
    exact beq_iff_eq.mpr he
section MZ
variable {G : zG} {d : Nat} {ad : Nat → Nat} {μ : zMm} {D : zDD} {Q : zRR} {a : zA}
theorem mc_ask (hC : zCs G) (hd : 3 ≤ d) (h : rIn μ D Q) (hD : zDDW D) (hQ : Q.1 < 2 ^ 29) (hf : mPz μ 4 (zPl a)) (ha : zWf a) (h44 : μ.1 44 = -1) : mC G d ad M_Mo_ask [.ref (ad 50)] μ (mPv fun μ' => rIn μ' (zReq D Q a).1 (zReq D Q a).2.1 ∧ mGt μ' (zReq D Q a).2.2 ∧ mFm aI fA (2 :: kRw) μ μ') := by
  obtain ⟨d1, d2, d3, d4, d5, d6, d7, d8⟩ := id hD
  obtain ⟨r1, r2, r3, r4, r5⟩ := id h
  refine mC_in [some (.ref (ad 50)), none] pn_Mo_ask hC.1 rfl (Nat.le_of_ble_eq_true rfl) rfl ?_
  refine sMo_ask_0 ?_
  have F1 : mFm [35] [] [] μ (upd μ.1 35 (μ.1 35 + nI 1), μ.2) := mFm.rf.pi (by decide)
  have e35 : upd μ.1 35 (μ.1 35 + nI 1) 35 = nI (Q.1 + 1) := by rw [pk_us, r5.1, nI_add]
  have hf1 := hf.fm F1 (by decide)
  refine sMo_ask_10 (by omega) (Nat.le_of_ble_eq_true rfl) (mc_copyRow hC (to := 2) (fr := 4) (by decide) (by decide) (by decide)) ?_
  rintro μ2 ⟨c1, c2, c3⟩
  have F2 : mFm [35] [] [2] μ μ2 := (F1.mono (fun _ z => z) (fun _ z => z) (fun _ z => by cases z)).tr (c1.mono (fun _ z => by cases z) (fun _ z => z) (fun _ z => z))
  have P2 : mPz μ2 2 (zPl a) := ⟨c2 _ hf1.1, c3 _ hf1.2⟩
  have i2 : μ2.1 35 = nI (Q.1 + 1) := (c1.1 35 List.not_mem_nil).trans e35
  have C2 := r2.fm F2 (by decide) (fun k _ _ => List.not_mem_nil)
  have hf2 := hf.fm F2 (by decide)
  refine sMo_ask_16 (by omega) (Nat.le_of_ble_eq_true rfl) (mc_tell hC (by omega) C2 d4 d5 hf2.1 ha) ?_
  rintro μ3 ⟨s1, s2⟩
  have F3 : mFm [35, 37] [36] [2] μ μ3 := (F2.mono (fun k z => by rw [List.mem_singleton.mp z]; decide) (fun _ z => by cases z) (fun _ z => z)).tr (s2.mono (fun k z => by rw [List.mem_singleton.mp z]; decide) (fun _ z => z) (fun _ z => by cases z))
  have A3 := r1.fm F3 d2 (by decide) (fun k a1 a2 => (by simp only [List.mem_cons, List.not_mem_nil, or_false]; omega)) (fun k hk => (by simp only [List.mem_cons, List.not_mem_nil, or_false]; omega))
  have C3 := r2.fm F3 (by decide) (fun k a1 a2 => (by simp only [List.mem_cons, List.not_mem_nil, or_false]; omega))
  have K3 := (r3.fm F3 d7 (by decide) (by decide) (by decide) (by decide) (by decide) (by decide) (by decide) (by decide) (fun k hk => (by simp only [List.mem_cons, List.not_mem_nil, or_false]; omega))).le (Nat.le_succ Q.1)
  have clk3 := (F3.1 25 (by decide)).trans r4
  have P3 := P2.fm s2 (by decide)
  have tl := zTell_len (site := a.1) d4 D.2.1.length (Nat.le_refl _)
  rw [List.take_length] at tl
  have Q3 : rQ μ3 (Q.1 + 1, some a, zTell a.1 D.2.1) := ⟨(s2.1 35 (by decide)).trans i2, ⟨(fun z => absurd z (Nat.succ_ne_zero _)), (fun z => by cases z)⟩, (fun b hb => by cases hb; exact P3), s1.1, s1.2.1, s1.2.2, by show (zTell a.1 D.2.1).length ≤ 360; omega⟩
  have hf3 := hf.fm F3 (by decide)
  have x44 : μ3.1 44 = -1 := (F3.1 44 (by decide)).trans h44
  have R3 : rIn μ3 D (Q.1 + 1, some a, zTell a.1 D.2.1) := ⟨A3, C3, K3, clk3, Q3⟩
  have FF3 : mFm aI fA (2 :: kRw) μ μ3 := F3.mono (fun k z => by simp only [List.mem_cons, List.not_mem_nil, or_false] at z ⊢; omega) (fun k z => by simp only [List.mem_cons, List.not_mem_nil, or_false] at z ⊢; omega) (fun k z => by simp only [List.mem_cons, List.not_mem_nil, or_false] at z ⊢; omega)
  refine sMo_ask_20 ?_
  -- behind the search
  have aft : ∀ (μ4 : zMm) (o1 : Option Value), mFm [44] [] [] μ3 μ4 → μ4.1 44 = (if zFi (zAsp (zPl a)) D.1 < D.1.length then nI (zFi (zAsp (zPl a)) D.1) else -1) → mW G d ad M_Mo_ask 53 [some (.ref (ad 50)), o1] [] μ4 (mPv fun μ' => rIn μ' (zReq D Q a).1 (zReq D Q a).2.1 ∧ mGt μ' (zReq D Q a).2.2 ∧ mFm aI fA (2 :: kRw) μ μ') := by
    intro μ4 o1 F4 g44
    have FF4 : mFm aI fA (2 :: kRw) μ μ4 := FF3.tr (F4.mono (fun k z => by rw [List.mem_singleton.mp z]; decide) (fun _ z => by cases z) (fun _ z => by cases z))
    have R4 : rIn μ4 D (Q.1 + 1, some a, zTell a.1 D.2.1) := R3.fm hD F4 (fun k z => by rw [List.mem_singleton.mp z]; decide) (fun _ z => by cases z) (fun _ z => by cases z)
    by_cases q : zFi (zAsp (zPl a)) D.1 < D.1.length
    · rw [if_pos q] at g44
      have hx := fi_at q
      have hx2 : zPl D.1[zFi (zAsp (zPl a)) D.1].1 = zPl a := eq_of_beq hx
      generalize hi : zFi (zAsp (zPl a)) D.1 = i at q g44 hx2
      have hi12 : i < 12 := (by omega)
      refine sMo_ask_53 (fun _ => ?_) (fun z => absurd (show (0 : Int32) ≤ μ4.1 44 by rw [g44]; exact nI_pos' (by omega)) z)
      obtain ⟨v, ax1, ax2, ax3, ax4⟩ := R4.1.2 i q
      have hxw := d1 _ (List.getElem_mem q)
      generalize hα : D.1[i] = α at v ax1 ax2 ax3 ax4 hxw hx2
      have hreq : zReq D Q a = ((D.1, if α.2.2.1.1 = [] then D.2.1 else zJput D.2.1 (a.1, α.2.2.1.1, α.2.2.1.2), if α.2.1 = 0 then D.2.2.1 else zKput D.2.2.1 (α, D.2.2.2 + α.2.1), D.2.2.2), (Q.1 + 1, some a, zTell a.1 D.2.1), some α) := by
        unfold zReq
        rw [hi, List.getElem?_eq_getElem q, hα]
      rw [hreq]
      have hname : α.2.2.1.1.length ≤ 8 := by
        rcases hxw.2.2.1 with w | w
        · rw [w.1]; exact Nat.zero_le _
        · exact (zNm_all w.1).2.1
      -- behind the cookie
      have two : ∀ (μ5 : zMm) (cs : List zCk), mFm [30] [31, 32, 33, 34] [] μ4 μ5 → rC μ5 cs → mW G d ad M_Mo_ask 81 [some (.ref (ad 50)), o1] [] μ5 (mPv fun μ' => rIn μ' (D.1, cs, if α.2.1 = 0 then D.2.2.1 else zKput D.2.2.1 (α, D.2.2.2 + α.2.1), D.2.2.2) (Q.1 + 1, some a, zTell a.1 D.2.1) ∧ mGt μ' (some α) ∧ mFm aI fA (2 :: kRw) μ μ') := by
        intro μ5 cs F5 hcs
        have FF5 : mFm aI fA (2 :: kRw) μ μ5 := FF4.tr (F5.mono (fun k z => by simp only [List.mem_cons, List.not_mem_nil, or_false] at z ⊢; omega) (fun k z => by simp only [List.mem_cons, List.not_mem_nil, or_false] at z ⊢; omega) (fun _ z => by cases z))
        obtain ⟨t1, t2, t3, t4, t5⟩ := R4
        have A5 := t1.fm F5 d2 (by decide) (fun k a1 a2 => (by simp only [List.mem_cons, List.not_mem_nil, or_false]; omega)) (fun k hk => List.not_mem_nil)
        have K5 := t3.fm F5 d7 (by decide) (by decide) (by decide) (by decide) (by decide) (by decide) (by decide) (by decide) (fun k hk => List.not_mem_nil)
        have clk5 := (F5.1 25 (by decide)).trans t4
        have Q5 := t5.fm F5 (by decide) (by decide) (by decide) (by decide)
        have v5 := v.fm F5 List.not_mem_nil List.not_mem_nil (by decide) (by decide) (by decide) (by decide)
        have e19 : μ5.2 19 = μ4.2 19 := F5.ar 19 (by decide) (by decide) (by decide) (by decide)
        have y44 : μ5.1 44 = nI i := (F5.1 44 (by decide)).trans g44
        by_cases q0 : α.2.1 = 0
        · rw [if_pos q0]
          refine sMo_ask_81 (i1 := i) y44 (by rw [ml_19]; omega) (fun _ => sMo_ask_101 ⟨rfl, ⟨A5, hcs, K5, clk5, Q5⟩, ⟨(fun z => by cases z), (fun β hβ => by cases hβ; exact ⟨i, y44, (by omega), v5⟩)⟩, FF5⟩) (fun z => absurd (show μ5.2 19 i ≤ 0 by rw [e19]; exact ax1 q0) z)
        · rw [if_neg q0]
          have e19' : μ5.2 19 i = nI α.2.1 := by rw [e19]; exact ax2 q0
          have hage := hxw.2.1
          refine sMo_ask_81 (i1 := i) y44 (by rw [ml_19]; omega) (fun z => absurd (show nI α.2.1 ≤ 0 by rw [← e19']; exact z) (nI_nle (by omega) (by omega))) (fun _ => ?_)
          have hf5 : mPw μ5 4 (zPl α.1) := by rw [hx2]; exact ((hf3.fm F4 List.not_mem_nil).fm F5 List.not_mem_nil).1
          have hK5 : rK μ5 Q.1 D.2.2.1 := by
            have := r3.fm (FF5.mono (fun _ z => z) (fun _ z => z) (fun _ z => z)) d7
            exact ((((r3.fm F3 d7 (by decide) (by decide) (by decide) (by decide) (by decide) (by decide) (by decide) (by decide) (fun k hk => (by simp only [List.mem_cons, List.not_mem_nil, or_false]; omega))).fm F4 d7 (by decide) (by decide) (by decide) (by decide) (by decide) (by decide) (by decide) (by decide) (fun k hk => List.not_mem_nil))).fm F5 d7 (by decide) (by decide) (by decide) (by decide) (by decide) (by decide) (by decide) (by decide) (fun k hk => List.not_mem_nil))
          refine sMo_ask_93 (by omega) (Nat.le_of_ble_eq_true rfl) (by rw [y44]; exact mc_keep hC (by omega) hK5 hQ d7 d8 d6 hf5 hi12 hxw v5 e19' clk5) ?_
          rintro μ6 ⟨k1, k2, k3⟩
          have A6 := A5.sm d2 d1 k2 k3
          refine sMo_ask_101 ⟨rfl, ⟨A6, hcs.fm k2 (by decide) (fun k a1 a2 => (by simp only [List.mem_cons, List.not_mem_nil, or_false]; omega)), k1, (k2.1 25 (by decide)).trans clk5, Q5.fm k2 (by decide) (by decide) (by decide) (by decide)⟩, ⟨(fun z => by cases z), (fun β hβ => by cases hβ; refine ⟨i, (k2.1 44 (by decide)).trans y44, (by omega), ?_⟩; have := (A6.2 i q).1; rw [hα] at this; exact this)⟩, FF5.tr (k2.mono (fun k z => by simp only [List.mem_cons, List.not_mem_nil, or_false] at z ⊢; omega) (fun k z => by simp only [List.mem_cons, List.not_mem_nil, or_false] at z ⊢; omega) (fun k z => List.mem_cons_of_mem _ z))⟩
      by_cases qc : α.2.2.1.1 = []
      · rw [if_pos qc]
        refine sMo_ask_61 (i1 := i) g44 (by rw [ml_21]; omega) (fun _ => two μ4 D.2.1 mFm.rf R4.2.1) (fun z => absurd (show μ4.2 21 i ≤ 0 by rw [ax3, qc]; decide) z)
      · rw [if_neg qc]
        have hpos := List.length_pos_iff.mpr qc
        refine sMo_ask_61 (i1 := i) g44 (by rw [ml_21]; omega) (fun z => absurd (show nI α.2.2.1.1.length ≤ 0 by rw [← ax3]; exact z) (nI_nle (by omega) (by omega))) (fun _ => ?_)
        obtain ⟨y1, y2, y3⟩ := ax4 qc
        have hnm := hxw.2.2.1.resolve_left (fun w => qc w.1)
        refine sMo_ask_73 (by omega) (Nat.le_of_ble_eq_true rfl) (by rw [g44]; exact mc_drop hC (by omega) R4.2.1 d4 d5 (hf3.fm F4 List.not_mem_nil).1 ha hi12 ax3 y1 y2 y3 hnm.1 hnm.2) ?_
        rintro μ5 ⟨j1, j2⟩
        exact two μ5 _ j2 j1
    · rw [if_neg q] at g44
      have hreq : zReq D Q a = (D, (Q.1 + 1, some a, zTell a.1 D.2.1), none) := by
        unfold zReq
        rw [List.getElem?_eq_none (by omega)]
      rw [hreq]
      refine sMo_ask_53 (fun z => absurd (show (0 : Int32) ≤ -1 by rw [← g44]; exact z) (by decide)) (fun _ => sMo_ask_60 ⟨rfl, R4, ⟨fun _ => g44, (fun β hβ => by cases hβ)⟩, FF4⟩)
  have main : ∀ m i (μ4 : zMm), i + m = D.1.length → mFm [44] [] [] μ3 μ4 → μ4.1 44 = (if zFi (zAsp (zPl a)) D.1 < i then nI (zFi (zAsp (zPl a)) D.1) else -1) → mW G d ad M_Mo_ask 22 [some (.ref (ad 50)), some (.int (nI i))] [] μ4 (mPv fun μ' => rIn μ' (zReq D Q a).1 (zReq D Q a).2.1 ∧ mGt μ' (zReq D Q a).2.2 ∧ mFm aI fA (2 :: kRw) μ μ') := by
    intro m
    induction m with
    | zero =>
      intro i μ4 hi F4 g44
      have e16 : μ4.1 16 = nI D.1.length := (F4.1 16 (by decide)).trans A3.1
      rw [show i = D.1.length by omega] at g44 ⊢
      exact sMo_ask_22 (fun _ => aft μ4 _ F4 g44) (fun z => absurd (show μ4.1 16 ≤ nI D.1.length by rw [e16]; exact nI_le (Nat.le_refl _) (by omega)) z)
    | succ m ih =>
      intro i μ4 hi F4 g44
      have hiL : i < D.1.length := (by omega)
      have e16 : μ4.1 16 = nI D.1.length := (F4.1 16 (by decide)).trans A3.1
      refine sMo_ask_22 (fun z => absurd (show nI D.1.length ≤ nI i by rw [← e16]; exact z) (nI_ge (by omega) (by omega))) (fun _ => ?_)
      have row := (A3.2 i hiL).1.1.fm F4 List.not_mem_nil
      refine sMo_ask_30 (by omega) (Nat.le_of_ble_eq_true rfl) (by rw [nI_add]; exact mc_alike hC (by omega) (a := 6 + i) (b := 4) (by omega) (by decide) row (hf3.fm F4 List.not_mem_nil).1) ?_
      rintro r μ5 ⟨rfl, rfl⟩
      by_cases q : zPl D.1[i].1 = zPl a
      · rw [beq_iff_eq.mpr q]
        have hfi := as_fi d3 hiL q
        refine sMo_ask_39 (fun z => absurd z (by decide)) (fun _ => ?_)
        refine sMo_ask_42 ?_
        refine sMo_ask_47 ?_
        rw [nI_add]
        refine ih (i + 1) _ (by omega) (F4.pi (by decide)) ?_
        dsimp only
        rw [pk_us, hfi, if_pos (by omega)]
      · rw [beq_eq_false_iff_ne.mpr q]
        refine sMo_ask_39 (fun _ => ?_) (fun z => absurd (by decide) z)
        refine sMo_ask_47 ?_
        rw [nI_add]
        refine ih (i + 1) _ (by omega) F4 ?_
        have hne : zFi (zAsp (zPl a)) D.1 ≠ i := fun w => by
          have hlt : zFi (zAsp (zPl a)) D.1 < D.1.length := (by omega)
          have := fi_at hlt
          have e2 : zPl D.1[zFi (zAsp (zPl a)) D.1].1 = zPl a := eq_of_beq this
          exact q (by simp only [w] at e2; exact e2)
        rw [g44]
        by_cases w : zFi (zAsp (zPl a)) D.1 < i
        · rw [if_pos w, if_pos (by omega)]
        · rw [if_neg w, if_neg (by omega)]
  exact main D.1.length 0 μ3 (by omega) mFm.rf (by rw [if_neg (Nat.not_lt_zero _)]; exact x44)
end MZ
