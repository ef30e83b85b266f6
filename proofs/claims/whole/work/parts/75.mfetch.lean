/-- what came, as the model has it -/
def mGc (μ : zMm) (c : zAn) : Prop := (μ.1 44 = -1 ∧ c.2.2.2.2.2 = [] ∧ c.2.2.2.2.1 = false) ∨ ∃ g, μ.1 44 = nI g ∧ g < 20 ∧ mSv μ g (6 + g) (46 + g) c
abbrev fR : List Nat := 2 :: 4 :: kRw
/-- behind a look: it is fresh or not -/
theorem fresh_l {L : List (Nat × Nat × zKe)} {p : List Nat} {clk : Nat} (hp : (L.map (fun e => e.2.2)).Pairwise (fun a b => zPl a.1.1 ≠ zPl b.1.1)) : (∀ e ∈ L, zPl e.2.2.1.1 = p → clk < e.2.2.2 → zFresh (L.map (fun e => e.2.2)) p clk = some e.2.2.1) ∧ ((∀ e ∈ L, zPl e.2.2.1.1 = p → ¬ clk < e.2.2.2) → zFresh (L.map (fun e => e.2.2)) p clk = none) := by
  refine ⟨fun e he h1 h2 => ?_, fun hno => ?_⟩
  · obtain ⟨i, hi, rfl⟩ := List.getElem_of_mem he
    have hfi := kp_fi hp hi h1
    unfold zFresh
    rw [hfi, List.getElem?_eq_getElem (by rw [List.length_map]; exact hi), List.getElem_map]
    exact if_neg (by omega)
  · unfold zFresh
    cases hk : (L.map (fun e => e.2.2))[zFi (zKsp p) (L.map (fun e => e.2.2))]? with
    | none => rfl
    | some k =>
      obtain ⟨hlt, hk2⟩ := List.getElem?_eq_some_iff.mp hk
      have hm := fi_at hlt
      rw [hk2] at hm
      have hlt2 : zFi (zKsp p) (L.map (fun e => e.2.2)) < L.length := by rw [List.length_map] at hlt; exact hlt
      rw [List.getElem_map] at hk2
      have := hno L[zFi (zKsp p) (L.map (fun e => e.2.2))] (List.getElem_mem _) (by rw [hk2]; exact eq_of_beq hm)
      rw [hk2] at this
      exact if_pos (by omega)
section NA
variable {G : zG} {d : Nat} {ad : Nat → Nat} {μ : zMm} {D : zDD} {Q : zRR} {a : zA} {T : zTT} {C : zCC}
/-- one hop: what is asked for is kept, or a request -/
theorem mw_hop (hC : zCs G) (hd : 4 ≤ d) (h : rIn μ D Q) (hD : zDDW D) (hN : zDN D) (hQ : Q.1 < 2 ^ 29) (hf : mPz μ 4 (zPl a)) (ha : zWf a) {hp : Nat} (h45 : μ.1 45 + nI 1 = nI hp) {o1 o2 o3 : Option Value} {P : Option Value → zMm → Prop} (kk : ∀ (μ' : zMm) (o3 : Option Value), rIn μ' (zAsk D Q a).1 (zAsk D Q a).2.1 → mGt μ' (zAsk D Q a).2.2.1 → mPz μ' 4 (zPl a) → μ'.1 45 = nI hp → μ'.1 46 = zB1 (zAsk D Q a).2.2.2 → mFm fI fA fR μ μ' → mW G d ad M_Mo_fetchIt 117 [some (.ref (ad 50)), o1, o2, o3] [] μ' P) : mW G d ad M_Mo_fetchIt 26 [some (.ref (ad 50)), o1, o2, o3] [] μ P := by
  refine sMo_fetchIt_26 ?_
  refine sMo_fetchIt_36 ?_
  refine sMo_fetchIt_41 ?_
  obtain ⟨d1, d2, d3, d4, d5, d6, d7, d8⟩ := id hD
  have F1 : mFm [44, 45, 46] [] [] μ (upd (upd μ.1 45 (μ.1 45 + nI 1)) 44 (-1), μ.2) := (mFm.rf.pi (μ1 := μ) (by decide)).pi (by decide)
  have e45 : upd (upd μ.1 45 (μ.1 45 + nI 1)) 44 (-1) 45 = nI hp := by rw [pk_un (by decide), pk_us]; exact h45
  have up : ∀ {μ1 : zMm}, mFm [44, 45, 46] [] [] μ μ1 → rIn μ1 D Q := fun f => h.fm hD f (fun k z => by simp only [List.mem_cons, List.not_mem_nil, or_false] at z ⊢; omega) (fun _ z => by cases z) (fun _ z => by cases z)
  have fr : ∀ {μ1 : zMm}, mFm [44, 45, 46] [] [] μ μ1 → mFm fI fA fR μ μ1 := fun f => f.mono (fun k z => by simp only [List.mem_cons, List.not_mem_nil, or_false] at z ⊢; omega) (fun _ z => by cases z) (fun _ z => by cases z)
  obtain ⟨L, kc, a1, a2, a3, a4, a5, a6, a7⟩ := h.2.2.1
  have hp8 := d8
  rw [← a1] at hp8
  obtain ⟨fr1, fr2⟩ := fresh_l (p := zPl a) (clk := D.2.2.2) hp8
  rw [a1] at fr1 fr2
  have a5' := List.pairwise_iff_getElem.mp a5
  have uniqm : ∀ e ∈ L, ∀ e' ∈ L, zPl e.2.2.1.1 = zPl e'.2.2.1.1 → e = e' := fun e he e' he' hq => by
    obtain ⟨i1, hi1, rfl⟩ := List.getElem_of_mem he
    obtain ⟨i2, hi2, rfl⟩ := List.getElem_of_mem he'
    have hpp := List.pairwise_iff_getElem.mp hp8
    rcases Nat.lt_trichotomy i1 i2 with w | w | w
    · have := hpp i1 i2 (by rw [List.length_map]; exact hi1) (by rw [List.length_map]; exact hi2) w
      simp only [List.getElem_map] at this
      exact absurd hq this
    · subst w; rfl
    · have := hpp i2 i1 (by rw [List.length_map]; exact hi2) (by rw [List.length_map]; exact hi1) w
      simp only [List.getElem_map] at this
      exact absurd hq.symm this
  -- behind the look
  have aft : ∀ (μ1 : zMm) (o3 : Option Value), mFm [44, 45, 46] [] [] μ μ1 → μ1.1 45 = nI hp → ((∃ e ∈ L, zPl e.2.2.1.1 = zPl a ∧ D.2.2.2 < e.2.2.2 ∧ μ1.1 44 = nI (12 + e.1)) ∨ ((∀ e ∈ L, zPl e.2.2.1.1 = zPl a → ¬ D.2.2.2 < e.2.2.2) ∧ μ1.1 44 = -1)) → mW G d ad M_Mo_fetchIt 90 [some (.ref (ad 50)), o1, o2, o3] [] μ1 P := by
    intro μ1 o3 f1 g45 hcase
    have R1 := up f1
    rcases hcase with ⟨e, he, e1, e2, e3⟩ | ⟨hno, e3⟩
    · have hask : zAsk D Q a = (D, Q, some e.2.2.1, true) := by
        unfold zAsk
        rw [fr1 e he e1 e2]
      rw [hask] at kk
      have hes := (a6 e he).1
      have h0 : ¬ nI (12 + e.1) < 0 := nI_pos (by omega)
      refine sMo_fetchIt_90 (fun z => absurd (show nI (12 + e.1) < 0 by rw [← e3]; exact z) h0) (fun _ => ?_)
      refine sMo_fetchIt_98 rfl rfl ?_
      have f2 : mFm [44, 45, 46] [] [] μ (upd μ1.1 46 (nI 1), μ1.2) := f1.pi (by decide)
      have x44 : upd μ1.1 46 (nI 1) 44 = nI (12 + e.1) := by rw [pk_un (by decide)]; exact e3
      refine sMo_fetchIt_106 (fun _ => ?_) (fun z => absurd (show (0 : Int32) ≤ upd μ1.1 46 (nI 1) 44 by rw [x44]; exact nI_pos' (by omega)) z)
      refine kk _ _ (up f2) ⟨(fun z => by cases z), (fun β hβ => ?_)⟩ (hf.fm f2 List.not_mem_nil) ?_ ?_ (fr f2)
      · cases hβ
        refine ⟨12 + e.1, x44, (by omega), ?_⟩
        have hsv := (a6 e he).2.2.1.fm f2 List.not_mem_nil List.not_mem_nil List.not_mem_nil List.not_mem_nil List.not_mem_nil List.not_mem_nil
        rw [show 6 + (12 + e.1) = 18 + e.1 by omega, show 46 + (12 + e.1) = 58 + e.1 by omega]
        exact hsv
      · dsimp only; rw [pk_un (by decide)]; exact g45
      · dsimp only; rw [pk_us]; decide
    · have hask : zAsk D Q a = ((zReq D Q a).1, (zReq D Q a).2.1, (zReq D Q a).2.2, false) := by
        unfold zAsk
        rw [fr2 hno]
      rw [hask] at kk
      refine sMo_fetchIt_90 (fun _ => ?_) (fun z => absurd (show μ1.1 44 < 0 by rw [e3]; decide) z)
      refine sMo_fetchIt_102 rfl rfl ?_
      have f2 : mFm [44, 45, 46] [] [] μ (upd μ1.1 46 (nI 0), μ1.2) := f1.pi (by decide)
      have x44 : upd μ1.1 46 (nI 0) 44 = -1 := by rw [pk_un (by decide)]; exact e3
      refine sMo_fetchIt_106 (fun z => absurd (show (0 : Int32) ≤ -1 by rw [← x44]; exact z) (by decide)) (fun _ => ?_)
      have hf2 := hf.fm f2 List.not_mem_nil
      refine sMo_fetchIt_113 (by omega) (Nat.le_of_ble_eq_true rfl) (mc_ask hC (by omega) (up f2) hD hQ hf2 ha x44) ?_
      rintro μ3 ⟨k1, k2, k3⟩
      refine kk μ3 _ k1 k2 (hf2.fm k3 (by simp only [List.mem_cons, List.not_mem_nil, or_false]; omega)) ?_ ?_ ((fr f2).tr (k3.mono (fun k z => by simp only [List.mem_cons, List.not_mem_nil, or_false] at z ⊢; omega) (fun _ z => z) (fun k z => by simp only [List.mem_cons, List.not_mem_nil, or_false] at z ⊢; omega)))
      · rw [k3.1 45 (by decide)]
        dsimp only; rw [pk_un (by decide)]; exact g45
      · rw [k3.1 46 (by decide)]
        dsimp only; rw [pk_us]; decide
  have main : ∀ m s (μ1 : zMm), s + m = D.2.2.1.length → mFm [44, 45, 46] [] [] μ μ1 → μ1.1 45 = nI hp → ((∃ e ∈ L, zPl e.2.2.1.1 = zPl a ∧ D.2.2.2 < e.2.2.2 ∧ μ1.1 44 = nI (12 + e.1) ∧ e.1 < s) ∨ ((∀ e ∈ L, zPl e.2.2.1.1 = zPl a → e.1 < s → ¬ D.2.2.2 < e.2.2.2) ∧ μ1.1 44 = -1)) → mW G d ad M_Mo_fetchIt 43 [some (.ref (ad 50)), o1, o2, some (.int (nI s))] [] μ1 P := by
    intro m
    induction m with
    | zero =>
      intro s μ1 hs f1 g45 hc
      have e26 : μ1.1 26 = nI D.2.2.1.length := (f1.1 26 (by decide)).trans a2
      refine sMo_fetchIt_43 (fun _ => aft μ1 _ f1 g45 ?_) (fun z => absurd (show μ1.1 26 ≤ nI s by rw [e26]; exact nI_le (by omega) (by omega)) z)
      rcases hc with ⟨e, he, e1, e2, e3, -⟩ | ⟨hno, e3⟩
      · exact Or.inl ⟨e, he, e1, e2, e3⟩
      · exact Or.inr ⟨fun e he e1 => hno e he e1 (by have := (a6 e he).1; omega), e3⟩
    | succ m ih =>
      intro s μ1 hs f1 g45 hc
      have e26 : μ1.1 26 = nI D.2.2.1.length := (f1.1 26 (by decide)).trans a2
      refine sMo_fetchIt_43 (fun z => absurd (show nI D.2.2.1.length ≤ nI s by rw [← e26]; exact z) (nI_ge (by omega) (by omega))) (fun _ => ?_)
      obtain ⟨e, he, es⟩ := a7 s (by omega)
      obtain ⟨b1, b2, b3, b4, b5⟩ := a6 e he
      have hrow := b3.1.fm f1 List.not_mem_nil
      rw [es] at hrow b4
      refine sMo_fetchIt_51 (by omega) (Nat.le_of_ble_eq_true rfl) (by rw [nI_add]; exact mc_alike hC (by omega) (a := 18 + s) (b := 4) (by omega) (by decide) hrow (hf.fm f1 List.not_mem_nil).1) ?_
      rintro r μ2 ⟨rfl, rfl⟩
      have uslot : ∀ e' ∈ L, e'.1 = s → e' = e := fun e' he' q => by
        obtain ⟨i1, hi1, rfl⟩ := List.getElem_of_mem he'
        obtain ⟨i2, hi2, rfl⟩ := List.getElem_of_mem he
        rcases Nat.lt_trichotomy i1 i2 with w | w | w
        · exact absurd (q.trans es.symm) (a5' i1 i2 hi1 hi2 w).1
        · subst w; rfl
        · exact absurd (es.trans q.symm) (a5' i2 i1 hi2 hi1 w).1
      -- not this one
      have skip : ¬ (zPl e.2.2.1.1 = zPl a ∧ D.2.2.2 < e.2.2.2) → mW G d ad M_Mo_fetchIt 84 [some (.ref (ad 50)), o1, o2, some (.int (nI s))] [] μ2 P := fun hn => by
        refine sMo_fetchIt_84 ?_
        rw [nI_add]
        refine ih (s + 1) μ2 (by omega) f1 g45 ?_
        rcases hc with ⟨e', he', e1, e2, e3, e4⟩ | ⟨hno, e3⟩
        · exact Or.inl ⟨e', he', e1, e2, e3, (by omega)⟩
        · refine Or.inr ⟨fun e' he' e1 e2 => ?_, e3⟩
          by_cases w : e'.1 = s
          · rw [uslot e' he' w] at e1 ⊢
            exact fun w2 => hn ⟨e1, w2⟩
          · exact hno e' he' e1 (by omega)
      by_cases q : zPl e.2.2.1.1 = zPl a
      · rw [beq_iff_eq.mpr q]
        refine sMo_fetchIt_60 (fun z => absurd z (by decide)) (fun _ => ?_)
        have e28 : μ2.2 28 s = nI e.2.2.2 := by
          rw [f1.ar 28 List.not_mem_nil (by decide) (by decide) (by decide)]; exact b4
        have e25 : μ2.1 25 = nI D.2.2.2 := (f1.1 25 (by decide)).trans h.2.2.2.1
        have l1 := hN.1
        have l2 := hN.2 e.2.2 (by rw [← a1]; exact List.mem_map_of_mem he)
        refine sMo_fetchIt_63 (i1 := s) rfl (by rw [ml_28]; omega) (fun z => ?_) (fun z => ?_)
        · rw [e28, e25] at z
          have := (nI_leI (by omega) (by omega)).mp z
          exact skip (fun w => absurd w.2 (by omega))
        · rw [e28, e25] at z
          have hlt : D.2.2.2 < e.2.2.2 := Nat.not_le.mp (fun w => z (nI_le w (by omega)))
          refine sMo_fetchIt_76 ?_
          refine sMo_fetchIt_84 ?_
          rw [nI_add]
          refine ih (s + 1) _ (by omega) (f1.pi (by decide)) ?_ (Or.inl ⟨e, he, q, hlt, ?_, (by omega)⟩)
          · dsimp only; rw [pk_un (by decide)]; exact g45
          · dsimp only; rw [pk_us, nI_add, es]
      · rw [beq_eq_false_iff_ne.mpr q]
        exact sMo_fetchIt_60 (fun _ => skip (fun w => q w.1)) (fun z => absurd (by decide) z)
  exact main D.2.2.1.length 0 _ (by omega) F1 e45 (Or.inr ⟨fun e _ _ h0 => absurd h0 (Nat.not_lt_zero _), pu_s⟩)
theorem mc_fetchIt (hC : zCs G) (hd : 4 ≤ d) (h : rIn μ D Q) (hD : zDDW D) (hN : zDN D) (hQ : Q.1 < 2 ^ 29 - 6) (hf : mPw μ 0 (zPl a)) (ha : zWf a) : mC G d ad M_Mo_fetchIt [.ref (ad 50)] μ (mPv fun μ' => rIn μ' (zGoo 5 D Q a).1 (zGoo 5 D Q a).2.1 ∧ mGc μ' (zGoo 5 D Q a).2.2.1 ∧ mPz μ' 4 (zPl (zGoo 5 D Q a).2.2.2.1) ∧ μ'.1 45 = nI (zGoo 5 D Q a).2.2.2.2.1 ∧ μ'.1 46 = zB1 (zGoo 5 D Q a).2.2.2.2.2 ∧ mFm fI fA fR μ μ') := by
  refine mC_in [some (.ref (ad 50)), none, none, none] pn_Mo_fetchIt hC.1 rfl (Nat.le_of_ble_eq_true rfl) rfl ?_
  refine sMo_fetchIt_0 (by omega) (Nat.le_of_ble_eq_true rfl) (mc_copyRow hC (to := 4) (fr := 0) (by decide) (by decide) (by decide)) ?_
  rintro μ1 ⟨c1, c2, -⟩
  refine sMo_fetchIt_6 (i := 4) rfl (by rw [ml_8]; omega) ?_
  refine sMo_fetchIt_13 ?_
  refine sMo_fetchIt_20 ?_
  have F1 : mFm fI fA fR μ (upd μ1.1 45 (-1), updA μ1.2 8 4 (nI 0)) := ((c1.mono (fun _ z => by cases z) (fun _ z => by cases z) (fun k z => by rw [List.mem_singleton.mp z]; decide) : mFm fI fA fR μ μ1).p8 (by decide)).pi (by decide)
  have f1 : mFm [44, 45, 46] [] [4] μ (upd μ1.1 45 (-1), updA μ1.2 8 4 (nI 0)) := ((c1.mono (fun _ z => by cases z) (fun _ z => z) (fun _ z => z) : mFm [44, 45, 46] [] [4] μ μ1).p8 (by decide)).pi (by decide)
  have R1 := h.fm hD f1 (fun k z => by simp only [List.mem_cons, List.not_mem_nil, or_false] at z ⊢; omega) (fun _ z => by cases z) (fun k z => by rw [List.mem_singleton.mp z]; decide)
  have P1 := c2 _ hf
  have hf1 : mPz (upd μ1.1 45 (-1), updA μ1.2 8 4 (nI 0)) 4 (zPl a) := by
    refine ⟨⟨?_, ?_, P1.2.2⟩, ?_, (fun j hj => absurd hj (Nat.not_lt_zero _)), Nat.zero_le _, (fun c hc => by cases hc)⟩
    · dsimp only; rw [updA_n (by decide)]; exact P1.1
    · dsimp only; rw [updA_n (by decide)]; exact P1.2.1
    · dsimp only; rw [updA_s, pk_us]; rfl
  have main : ∀ n hp (μ1 : zMm) (D : zDD) (Q : zRR) (a : zA) (o3 : Option Value) (P : zMm → Prop), hp + n = 5 → rIn μ1 D Q → zDDW D → zDN D → Q.1 + (n + 1) < 2 ^ 29 → mPz μ1 4 (zPl a) → zWf a → μ1.1 45 + nI 1 = nI hp → (∀ μ', rIn μ' (zGoo n D Q a).1 (zGoo n D Q a).2.1 → mGc μ' (zGoo n D Q a).2.2.1 → mPz μ' 4 (zPl (zGoo n D Q a).2.2.2.1) → μ'.1 45 = nI (hp + (zGoo n D Q a).2.2.2.2.1) → μ'.1 46 = zB1 (zGoo n D Q a).2.2.2.2.2 → mFm fI fA fR μ1 μ' → P μ') → mW G d ad M_Mo_fetchIt 22 [some (.ref (ad 50)), some (.int (nI 1)), some (.int (nI hp)), o3] [] μ1 (mPv P) := by
    intro n
    induction n with
    | zero =>
      intro hp μ1 D Q a o3 P hhp R hD hN hQ hf ha h45 kk
      refine sMo_fetchIt_22 (fun z => absurd z (by decide)) (fun _ => ?_)
      refine mw_hop hC hd R hD hN (by omega) hf ha h45 (fun μ2 o3 r2 g2 p2 y45 y46 f2 => ?_)
      -- no more
      have stop : ∀ (μ3 : zMm) (x : zAn), mFm [44] [] [] μ2 μ3 → mGc μ3 x → (zGoo 0 D Q a).2.2.1 = x → mW G d ad M_Mo_fetchIt 158 [some (.ref (ad 50)), some (.int (nI 0)), some (.int (nI hp)), o3] [] μ3 (mPv P) := by
        intro μ3 x f3 hx ex
        refine sMo_fetchIt_158 (fun _ => ?_) (fun z => absurd (by decide) z)
        refine sMo_fetchIt_196 ?_
        refine sMo_fetchIt_22 (fun _ => sMo_fetchIt_202 ⟨rfl, kk _ (r2.fm (zAsk_w hD ha).1 f3 (fun k z => by rw [List.mem_singleton.mp z]; decide) (fun _ z => by cases z) (fun _ z => by cases z)) ?_ (p2.fm f3 List.not_mem_nil) ((f3.1 45 (by decide)).trans y45) ((f3.1 46 (by decide)).trans y46) (f2.tr (f3.mono (fun k z => by rw [List.mem_singleton.mp z]; decide) (fun _ z => by cases z) (fun _ z => by cases z)))⟩) (fun z => absurd (by decide) z)
        rw [ex]; exact hx
      have ex : (zGoo 0 D Q a).2.2.1 = if (zToOf (zAsk D Q a).2.2.1).isNone then (zAsk D Q a).2.2.1.getD zEmp else zEmp := rfl
      cases hx : (zAsk D Q a).2.2.1 with
      | none =>
        rw [hx] at g2 ex
        have y44 := g2.1 rfl
        refine sMo_fetchIt_117 (fun _ => ?_) (fun z => absurd (show μ2.1 44 < 0 by rw [y44]; decide) z)
        exact sMo_fetchIt_140 (fun _ => stop μ2 _ mFm.rf (Or.inl ⟨y44, rfl, rfl⟩) ex) (fun z => absurd (by decide) z)
      | some x =>
        rw [hx] at g2 ex
        obtain ⟨g, y44, hg, sv⟩ := g2.2 x rfl
        refine sMo_fetchIt_117 (fun z => absurd (show nI g < 0 by rw [← y44]; exact z) (nI_pos (by omega))) (fun _ => ?_)
        cases hto : x.2.2.2.1 with
        | none =>
          have e : (zGoo 0 D Q a).2.2.1 = x := by
            rw [ex]
            show (if (x.2.2.2.1).isNone then x else zEmp) = x
            rw [hto]; rfl
          have y23 := sv.2.2.2.1
          rw [hto] at y23
          refine sMo_fetchIt_124 (i1 := g) y44 (by rw [ml_23]; omega) (fun _ => ?_) (fun z => absurd (show μ2.2 23 g = 0 by rw [y23]; decide) z)
          exact sMo_fetchIt_140 (fun _ => stop μ2 _ mFm.rf (Or.inr ⟨g, y44, hg, sv⟩) e) (fun z => absurd (by decide) z)
        | some b =>
          have e : (zGoo 0 D Q a).2.2.1 = zEmp := by
            rw [ex]
            show (if (x.2.2.2.1).isNone then x else zEmp) = zEmp
            rw [hto]; rfl
          have y23 := sv.2.2.2.1
          rw [hto] at y23
          refine sMo_fetchIt_124 (i1 := g) y44 (by rw [ml_23]; omega) (fun z => absurd (show zB1 (some b).isSome = 0 by rw [← y23]; exact z) (by show ¬ zB1 true = 0; decide)) (fun _ => ?_)
          refine sMo_fetchIt_136 (fun z => absurd z (by decide)) (fun _ => ?_)
          refine sMo_fetchIt_146 (fun z => absurd (by rw [show hp = 5 by omega]) z) (fun _ => ?_)
          refine sMo_fetchIt_151 ?_
          refine sMo_fetchIt_156 (fun _ => ?_) (fun z => absurd (by decide) z)
          refine sMo_fetchIt_196 ?_
          have f3 : mFm [44] [] [] μ2 (upd μ2.1 44 (-1), μ2.2) := mFm.rf.pi (by decide)
          refine sMo_fetchIt_22 (fun _ => sMo_fetchIt_202 ⟨rfl, kk _ (r2.fm (zAsk_w hD ha).1 f3 (fun k z => by rw [List.mem_singleton.mp z]; decide) (fun _ z => by cases z) (fun _ z => by cases z)) ?_ (p2.fm f3 List.not_mem_nil) ((f3.1 45 (by decide)).trans y45) ((f3.1 46 (by decide)).trans y46) (f2.tr (f3.mono (fun k z => by rw [List.mem_singleton.mp z]; decide) (fun _ z => by cases z) (fun _ z => by cases z)))⟩) (fun z => absurd (by decide) z)
          rw [e]
          exact Or.inl ⟨pu_s, rfl, rfl⟩
    | succ n ih =>
      intro hp μ1 D Q a o3 P hhp R hD hN hQ hf ha h45 kk
      refine sMo_fetchIt_22 (fun z => absurd z (by decide)) (fun _ => ?_)
      refine mw_hop hC hd R hD hN (by omega) hf ha h45 (fun μ2 o3 r2 g2 p2 y45 y46 f2 => ?_)
      obtain ⟨w1, w2⟩ := zAsk_w (R := Q) hD ha
      obtain ⟨n1, n2, n3⟩ := zAsk_n (R := Q) (a := a) hD hN
      -- no more
      have stop : ∀ (x : zAn), mGc μ2 x → zGoo (n + 1) D Q a = ((zAsk D Q a).1, (zAsk D Q a).2.1, x, a, 0, (zAsk D Q a).2.2.2) → mW G d ad M_Mo_fetchIt 158 [some (.ref (ad 50)), some (.int (nI 0)), some (.int (nI hp)), o3] [] μ2 (mPv P) := by
        intro x hx ex
        rw [ex] at kk
        refine sMo_fetchIt_158 (fun _ => ?_) (fun z => absurd (by decide) z)
        refine sMo_fetchIt_196 ?_
        exact sMo_fetchIt_22 (fun _ => sMo_fetchIt_202 ⟨rfl, kk _ r2 hx p2 y45 y46 f2⟩) (fun z => absurd (by decide) z)
      cases hx : (zAsk D Q a).2.2.1 with
      | none =>
        rw [hx] at g2
        have y44 := g2.1 rfl
        have ex : zGoo (n + 1) D Q a = ((zAsk D Q a).1, (zAsk D Q a).2.1, zEmp, a, 0, (zAsk D Q a).2.2.2) := by
          unfold zGoo
          rw [hx]
          rfl
        refine sMo_fetchIt_117 (fun _ => ?_) (fun z => absurd (show μ2.1 44 < 0 by rw [y44]; decide) z)
        exact sMo_fetchIt_140 (fun _ => stop _ (Or.inl ⟨y44, rfl, rfl⟩) ex) (fun z => absurd (by decide) z)
      | some x =>
        rw [hx] at g2
        obtain ⟨g, y44, hg, sv⟩ := g2.2 x rfl
        refine sMo_fetchIt_117 (fun z => absurd (show nI g < 0 by rw [← y44]; exact z) (nI_pos (by omega))) (fun _ => ?_)
        cases hto : x.2.2.2.1 with
        | none =>
          have ex : zGoo (n + 1) D Q a = ((zAsk D Q a).1, (zAsk D Q a).2.1, x, a, 0, (zAsk D Q a).2.2.2) := by
            have e1 : zToOf (some x) = none := hto
            unfold zGoo
            rw [hx, e1]
            rfl
          have y23 := sv.2.2.2.1
          rw [hto] at y23
          refine sMo_fetchIt_124 (i1 := g) y44 (by rw [ml_23]; omega) (fun _ => ?_) (fun z => absurd (show μ2.2 23 g = 0 by rw [y23]; decide) z)
          exact sMo_fetchIt_140 (fun _ => stop _ (Or.inr ⟨g, y44, hg, sv⟩) ex) (fun z => absurd (by decide) z)
        | some b =>
          have ex : zGoo (n + 1) D Q a = ((zGoo n (zAsk D Q a).1 (zAsk D Q a).2.1 b).1, (zGoo n (zAsk D Q a).1 (zAsk D Q a).2.1 b).2.1, (zGoo n (zAsk D Q a).1 (zAsk D Q a).2.1 b).2.2.1, (zGoo n (zAsk D Q a).1 (zAsk D Q a).2.1 b).2.2.2.1, (zGoo n (zAsk D Q a).1 (zAsk D Q a).2.1 b).2.2.2.2.1 + 1, (zGoo n (zAsk D Q a).1 (zAsk D Q a).2.1 b).2.2.2.2.2) := by
            have e1 : zToOf (some x) = some b := hto
            rw [zGoo]
            rw [hx, e1]
          have hb : zWf b := (w2 x hx).2.2.2.1 b hto
          have y23 := sv.2.2.2.1
          rw [hto] at y23
          refine sMo_fetchIt_124 (i1 := g) y44 (by rw [ml_23]; omega) (fun z => absurd (show zB1 (some b).isSome = 0 by rw [← y23]; exact z) (by show ¬ zB1 true = 0; decide)) (fun _ => ?_)
          refine sMo_fetchIt_136 (fun z => absurd z (by decide)) (fun _ => ?_)
          refine sMo_fetchIt_146 (fun _ => ?_) (fun z => absurd ((nI_eq (by omega) (by omega)).mp z) (by omega))
          refine sMo_fetchIt_158 (fun z => absurd z (by decide)) (fun _ => ?_)
          have hz := sv.2.2.2.2.1 b hto
          -- on
          have go : ∀ μ3 : zMm, mFm [] [] [4] μ2 μ3 → (∀ p, mPw μ2 (46 + g) p → mPw μ3 4 p) → (∀ p, mMk μ2 (46 + g) p → mMk μ3 4 p) → mW G d ad M_Mo_fetchIt 196 [some (.ref (ad 50)), some (.int (nI 1)), some (.int (nI hp)), o3] [] μ3 (mPv P) := by
            intro μ3 f3 c2 c3
            rw [ex] at kk
            refine sMo_fetchIt_196 ?_
            rw [nI_add]
            have r3 := r2.fm w1 f3 (fun _ z => by cases z) (fun _ z => by cases z) (fun k z => by rw [List.mem_singleton.mp z]; decide)
            have ff3 : mFm fI fA fR μ1 μ3 := f2.tr (f3.mono (fun _ z => by cases z) (fun _ z => by cases z) (fun k z => by rw [List.mem_singleton.mp z]; decide))
            refine ih (hp + 1) μ3 (zAsk D Q a).1 (zAsk D Q a).2.1 b o3 P (by omega) r3 w1 n1 (by omega) ⟨c2 _ hz.1, c3 _ hz.2⟩ hb (by rw [f3.1 45 List.not_mem_nil, y45, nI_add]) (fun μ' q1 q2 q3 q4 q5 q6 => kk μ' q1 q2 q3 ?_ q5 (ff3.tr q6))
            rw [q4]
            congr 1
            show hp + 1 + _ = hp + (_ + 1)
            omega
          by_cases q12 : g < 12
          · refine sMo_fetchIt_162 (fun z => absurd (show nI 12 ≤ nI g by rw [← y44]; exact z) (nI_ge (by omega) (by omega))) (fun _ => ?_)
            refine sMo_fetchIt_173 (by omega) (Nat.le_of_ble_eq_true rfl) (by rw [y44, nI_add]; exact mc_copyRow hC (to := 4) (fr := 46 + g) (by decide) (by omega) (by omega)) ?_
            rintro μ3 ⟨c1, c2, c3⟩
            exact go μ3 c1 c2 c3
          · refine sMo_fetchIt_162 (fun _ => ?_) (fun z => absurd (show nI 12 ≤ μ2.1 44 by rw [y44]; exact nI_le (by omega) (by omega)) z)
            refine sMo_fetchIt_183 (by omega) (Nat.le_of_ble_eq_true rfl) (by rw [y44, nI_add, pk_sub (by omega), show 58 + g - 12 = 46 + g by omega]; exact mc_copyRow hC (to := 4) (fr := 46 + g) (by decide) (by omega) (by omega)) ?_
            rintro μ3 ⟨c1, c2, c3⟩
            exact go μ3 c1 c2 c3
  exact main 5 0 _ D Q a none _ (by omega) R1 hD hN (by omega) hf1 ha (by dsimp only; rw [pk_us]; decide) (fun μ' q1 q2 q3 q4 q5 q6 => ⟨q1, q2, q3, by rw [q4, Nat.zero_add], q5, F1.tr q6⟩)
theorem mc_fetch (hC : zCs G) (hd : 8 ≤ d) (h : mRel μ T D Q C) (hS : zSW T D Q C) (hQ6 : Q.1 < 2 ^ 29 - 6) : mC G d ad M_Mo_fetch [.ref (ad 50)] μ (mPo (oTx oFetch T D Q C)) := by
  have hl := hS.1
  have hD := hS.2.2.1
  have hN := hS.2.2.2.1
  have htw := tw_le zOkc T.1
  refine mC_in [some (.ref (ad 50)), none, none] pn_Mo_fetch hC.1 rfl (Nat.le_of_ble_eq_true rfl) rfl ?_
  refine sMo_fetch_0 (by omega) (Nat.le_of_ble_eq_true rfl) (mc_take hC h.1) ?_
  rintro r μ1 ⟨rfl, k1, k2, k3, k4⟩
  have R1 := h.tk hD k1 k4
  unfold oTx
  by_cases q : zTw zOkc T.1 < T.1.length
  · rw [if_pos q, if_pos q]
    refine sMo_fetch_4 (fun z => absurd z (nI_pos (by omega))) (fun _ => ?_)
    refine sMo_fetch_9 (by omega) (Nat.le_of_ble_eq_true rfl) (mc_wrong hC) ?_
    rintro r μ2 ⟨rfl, rfl⟩
    exact sMo_fetch_13 (mPo.same rfl R1)
  rw [if_neg q, if_neg q]
  have hlo : zLo T.1 := zLo_all zOkc_lo (zOk_all q)
  refine sMo_fetch_4 (fun _ => ?_) (fun z => absurd (by decide) z)
  refine sMo_fetch_14 (by omega) (Nat.le_of_ble_eq_true rfl) (by rw [k2]; exact mc_refer hC (by omega) (mN.of k3 hlo) hlo hl (Nat.zero_le _) (Nat.le_refl _) (by decide) (by decide) R1.2.2.1.1 hS.2.1) ?_
  rw [sli_whole]
  rintro r μ2 ⟨n1, n2, n3⟩
  have R2 := R1.sc hD n3 zDj_r (by decide) (by decide) (by decide) (by decide) (by decide)
  unfold oFetch
  have e0 : (([], T.2) : zTT).2.2 = T.2.2 := rfl
  rw [e0]
  cases hz : zRead T.1 T.2.2 with
  | none =>
    have := n1 hz
    subst this
    exact sMo_fetch_28 (fun z => absurd rfl z) (fun _ => sMo_fetch_31 (mPo.same rfl R2))
  | some A =>
    obtain ⟨rfl, n4, n5⟩ := n2 A hz
    have hwA := zRead_wf hS.2.1 hz
    refine sMo_fetch_28 (fun _ => ?_) (fun z => absurd z (by decide))
    refine sMo_fetch_33 (by omega) (Nat.le_of_ble_eq_true rfl) (mc_copyRow hC (to := 3) (fr := 0) (by decide) (by decide) (by decide)) ?_
    rintro μ3 ⟨c1, c2, c3⟩
    have R3 := R2.sc hD c1 ⟨by decide, by decide, by decide⟩ (by decide) (by decide) (by decide) (by decide) (by decide)
    have n4' := n4.fm c1 (by decide)
    have M3 : mMk μ3 3 (A.2.2.2.drop 1) := c3 _ n4.2
    obtain ⟨t1, t2, t3, t4, t5, t6, t7, t8, t9, t10⟩ := R3
    refine sMo_fetch_39 (by omega) (Nat.le_of_ble_eq_true rfl) (mc_fetchIt hC (by omega) ⟨t5, t6, t7, t8, t9⟩ hD hN hQ6 n4'.1 hwA) ?_
    rintro μ4 ⟨g1, g2, g3, g4, g5, g6⟩
    have T4 := t1.fm g6 (by decide) (by decide)
    have O4 := t2.fm g6 (by decide) (by decide)
    have B4 := t3.fm g6 (by decide)
    have H4 := t4.fm g6 (by decide)
    have M4 := M3.ra (g6.2.2 3 (by decide))
    have hDG := (zGoo_w (n := 5) (R := Q) hD hwA).1
    have hCG := (zGoo_w (n := 5) (R := Q) hD hwA).2.1
    dsimp only
    generalize zGoo 5 D Q A = Z at g1 g2 g3 g4 g5 hDG hCG ⊢
    obtain ⟨D', Q', c, b, fo, kp⟩ := Z
    dsimp only at g1 g2 g3 g4 g5 hDG hCG ⊢
    have hcl : c.2.2.2.2.2.length ≤ 1500 := hCG.2.2.2.2.1
    have hclo : zLo c.2.2.2.2.2 := zLo_all zOkc_lo hCG.2.2.2.2.2
    refine sMo_fetch_43 rfl rfl ?_
    have f5 : mFm [48, 49, 50] [47] [26] μ4 (upd μ4.1 50 (nI 1), μ4.2) := mFm.rf.pi (by decide)
    refine sMo_fetch_48 (by omega) (Nat.le_of_ble_eq_true rfl) (mc_copyRow hC (to := 26) (fr := 4) (by decide) (by decide) (by decide)) ?_
    rintro μ6 ⟨d1, d2, -⟩
    have f6 : mFm [48, 49, 50] [47] [26] μ4 μ6 := f5.tr (d1.mono (fun _ z => by cases z) (fun _ z => by cases z) (fun _ z => z))
    have P6 : mPw μ6 26 (zPl b) := d2 _ (g3.fm (mFm.rf.pi (I := [50]) (Ar := []) (Rw := []) (by decide)) (by decide)).1
    have x50 : μ6.1 50 = nI 1 := (d1.1 50 List.not_mem_nil).trans pu_s
    have M6 : mMk μ6 3 (A.2.2.2.drop 1) := M4.ra (f6.2.2 3 (by decide))
    have ml8 := M6.2.2.1
    refine sMo_fetch_55 (i1 := 3) rfl (by rw [ml_8]; omega) (i := 26) rfl (by rw [ml_8]; omega) ?_
    refine sMo_fetch_68 ?_
    rw [M6.1]
    -- what was got, and the end
    have fin : ∀ (μ7 : zMm) (o2 : Option Value), mFm [48, 49, 50] [47] [26] μ4 μ7 → μ7.1 50 = nI 1 → mPw μ7 26 (zPl b) → mMk μ7 26 (A.2.2.2.drop 1) → mW G d ad M_Mo_fetch 106 [some (.ref (ad 50)), some (.int (-1)), o2] [] μ7 (mPo (nI c.2.2.2.2.2.length, ([], T.2), D', Q', (c, some b, A.2.2.2, fo, kp))) := by
      intro μ7 o2 f7 x50 P7 M7
      -- the state at the end
      have done : ∀ μ8 : zMm, mFm [48, 49, 50] [47] [26] μ4 μ8 → μ8.1 50 = nI 1 → mPw μ8 26 (zPl b) → mMk μ8 26 (A.2.2.2.drop 1) → μ8.1 48 = nI c.2.2.2.2.2.length → μ8.1 49 = zB1 c.2.2.2.2.1 → mN (μ8.2 47) 0 c.2.2.2.2.2 → mPo (nI c.2.2.2.2.2.length, ([], T.2), D', Q', (c, some b, A.2.2.2, fo, kp)) (some (.int (μ8.1 48))) μ8 := by
        intro μ8 f8 y50 P8 M8 y48 y49 y47
        have R8 := g1.fm hDG f8 (fun k z => by simp only [List.mem_cons, List.not_mem_nil, or_false] at z ⊢; omega) (fun k z => z) (fun k z => by rw [List.mem_singleton.mp z]; decide)
        refine ⟨_, rfl, y48, T4.fm f8 (by decide) (by decide), O4.fm f8 (by decide) (by decide), B4.fm f8 (by decide), H4.fm f8 (by decide), R8.1, R8.2.1, R8.2.2.1, R8.2.2.2.1, R8.2.2.2.2, y48, y47, y49, by rw [y50]; rfl, (fun b' hb => ?_), (fun hb => by cases hb)⟩
        cases hb
        exact ⟨P8, M8, (f8.1 45 (by decide)).trans g4, (f8.1 46 (by decide)).trans g5⟩
      have y44 : ∀ {μ8 : zMm}, mFm [48, 49, 50] [47] [26] μ4 μ8 → μ8.1 44 = μ4.1 44 := fun f => f.1 44 (by decide)
      rcases g2 with ⟨w1, w2, w3⟩ | ⟨g, w1, w2, w3⟩
      · have z44 := (y44 f7).trans w1
        refine sMo_fetch_106 (fun z => absurd (show (0 : Int32) ≤ -1 by rw [← z44]; exact z) (by decide)) (fun _ => ?_)
        refine sMo_fetch_114 ?_
        refine sMo_fetch_130 ?_
        have f8 : mFm [48, 49, 50] [47] [26] μ4 (upd μ7.1 48 (nI 0), μ7.2) := f7.pi (by decide)
        refine sMo_fetch_132 (fun _ => ?_) (fun z => absurd (show upd μ7.1 48 (nI 0) 48 ≤ nI 0 by rw [pk_us]; decide) z)
        have z44' := (y44 f8).trans w1
        refine sMo_fetch_167 (fun _ => ?_) (fun z => absurd (show upd μ7.1 48 (nI 0) 44 < 0 by rw [pk_un (by decide), z44]; decide) z)
        refine sMo_fetch_191 rfl rfl ?_
        refine sMo_fetch_195 (done _ (f8.pi (by decide)) ?_ P7 M7 ?_ ?_ ?_)
        · dsimp only; rw [pk_un (by decide), pk_un (by decide)]; exact x50
        · dsimp only; rw [pk_un (by decide), pk_us, w2]; rfl
        · dsimp only; rw [pk_us, w3]; decide
        · rw [w2]; exact fun j hj => absurd hj (Nat.not_lt_zero _)
      · have z44 := (y44 f7).trans w1
        obtain ⟨v1, v2, v3, v4, v5, v6⟩ := w3
        refine sMo_fetch_106 (fun _ => ?_) (fun z => absurd (show (0 : Int32) ≤ μ7.1 44 by rw [z44]; exact nI_pos' (by omega)) z)
        refine sMo_fetch_118 (i1 := g) z44 (by rw [ml_18]; omega) ?_
        refine sMo_fetch_130 ?_
        have e18 : μ7.2 18 g = nI c.2.2.2.2.2.length := by rw [f7.ar 18 (by decide) (by decide) (by decide) (by decide)]; exact v2
        rw [e18]
        have f8 : mFm [48, 49, 50] [47] [26] μ4 (upd μ7.1 48 (nI c.2.2.2.2.2.length), μ7.2) := f7.pi (by decide)
        have loop : ∀ m j (μ8 : zMm), j + m = c.2.2.2.2.2.length → mFm [48, 49, 50] [47] [26] μ4 μ8 → μ8.1 50 = nI 1 → mPw μ8 26 (zPl b) → mMk μ8 26 (A.2.2.2.drop 1) → μ8.1 48 = nI c.2.2.2.2.2.length → (∀ i, i < j → μ8.2 47 (0 + i) = nI (c.2.2.2.2.2.getD i 0)) → mW G d ad M_Mo_fetch 132 [some (.ref (ad 50)), some (.int (-1)), some (.int (nI j))] [] μ8 (mPo (nI c.2.2.2.2.2.length, ([], T.2), D', Q', (c, some b, A.2.2.2, fo, kp))) := by
          intro m
          induction m with
          | zero =>
            intro j μ8 hj f8 y50 P8 M8 y48 y47
            refine sMo_fetch_132 (fun _ => ?_) (fun z => absurd (show μ8.1 48 ≤ nI j by rw [y48]; exact nI_le (by omega) (by omega)) z)
            have z8 := (y44 f8).trans w1
            refine sMo_fetch_167 (fun z => absurd (show nI g < 0 by rw [← z8]; exact z) (nI_pos (by omega))) (fun _ => ?_)
            have e24 : μ8.2 24 g = zB1 c.2.2.2.2.1 := by rw [f8.ar 24 (by decide) (by decide) (by decide) (by decide)]; exact v6
            have fn : ∀ v : Int32, v = zB1 c.2.2.2.2.1 → mPo (nI c.2.2.2.2.2.length, ([], T.2), D', Q', (c, some b, A.2.2.2, fo, kp)) (some (.int (upd μ8.1 49 v 48))) (upd μ8.1 49 v, μ8.2) := fun v hv => by
              refine done (upd μ8.1 49 v, μ8.2) (f8.pi (by decide)) ?_ P8 M8 ?_ ?_ (fun i hi => y47 i (by omega))
              · dsimp only; rw [pk_un (by decide)]; exact y50
              · dsimp only; rw [pk_un (by decide)]; exact y48
              · dsimp only; rw [pk_us]; exact hv
            cases hb : c.2.2.2.2.1 with
            | true =>
              rw [hb] at e24 fn
              refine sMo_fetch_175 (i1 := g) z8 (by rw [ml_24]; omega) (fun z => absurd (show zB1 true = 0 by rw [← e24]; exact z) (by decide)) (fun _ => ?_)
              exact sMo_fetch_187 rfl rfl (sMo_fetch_195 (fn (nI 1) (by decide)))
            | false =>
              rw [hb] at e24 fn
              refine sMo_fetch_175 (i1 := g) z8 (by rw [ml_24]; omega) (fun _ => ?_) (fun z => absurd (by rw [e24]; decide) z)
              exact sMo_fetch_191 rfl rfl (sMo_fetch_195 (fn (nI 0) (by decide)))
          | succ m ih =>
            intro j μ8 hj f8 y50 P8 M8 y48 y47
            refine sMo_fetch_132 (fun z => absurd (show nI c.2.2.2.2.2.length ≤ nI j by rw [← y48]; exact z) (nI_ge (by omega) (by omega))) (fun _ => ?_)
            have z8 := (y44 f8).trans w1
            have e17 : μ8.2 17 (g * 1500 + j) = nI (c.2.2.2.2.2.getD j 0) := by rw [f8.ar 17 (by decide) (by decide) (by decide) (by decide)]; exact v3 j (by omega)
            refine sMo_fetch_140 (i1 := g * 1500 + j) (by rw [z8, pk_mul, nI_add]) (by rw [ml_17]; omega) (i := j) rfl (by rw [ml_47]; omega) ?_
            refine sMo_fetch_161 ?_
            rw [nI_add, e17, n8 (hclo.at j)]
            refine ih (j + 1) _ (by omega) (f8.pa (by decide) (by decide) (by decide) (by decide)) y50 (P8.ra ⟨?_, ?_, fun i _ => ?_⟩) (M8.ra ⟨?_, ?_, fun i _ => ?_⟩) y48 (fun i hi => ?_)
            · dsimp only; rw [updA_n (by decide)]
            · dsimp only; rw [updA_n (by decide)]
            · dsimp only; rw [updA_n (by decide)]
            · dsimp only; rw [updA_n (by decide)]
            · dsimp only; rw [updA_n (by decide)]
            · dsimp only; rw [updA_n (by decide)]
            · dsimp only
              rw [updA_s, Nat.zero_add]
              by_cases w : i = j
              · rw [w, pk_us]
              · rw [pk_un w]
                have := y47 i (by omega)
                rw [Nat.zero_add] at this
                exact this
        refine loop c.2.2.2.2.2.length 0 _ (by omega) f8 ?_ P7 M7 pu_s (fun i hi => absurd hi (Nat.not_lt_zero _))
        dsimp only; rw [pk_un (by decide)]; exact x50
    have f7 : mFm [48, 49, 50] [47] [26] μ4 (μ6.1, updA μ6.2 8 26 (nI (A.2.2.2.drop 1).length)) := f6.p8 (by decide)
    -- the mark
    have loop : ∀ m j (μ7 : zMm), j + m = (A.2.2.2.drop 1).length → mFm [48, 49, 50] [47] [26] μ4 μ7 → μ7.1 50 = nI 1 → mPw μ7 26 (zPl b) → μ7.2 8 26 = nI (A.2.2.2.drop 1).length → (∀ i, i < j → μ7.2 6 (26 * 150 + 135 + i) = nI ((A.2.2.2.drop 1).getD i 0)) → mW G d ad M_Mo_fetch 70 [some (.ref (ad 50)), some (.int (-1)), some (.int (nI j))] [] μ7 (mPo (nI c.2.2.2.2.2.length, ([], T.2), D', Q', (c, some b, A.2.2.2, fo, kp))) := by
      intro m
      induction m with
      | zero =>
        intro j μ7 hj f7 y50 P7 y8 y6
        have M3' : mMk μ7 3 (A.2.2.2.drop 1) := M4.ra (f7.2.2 3 (by decide))
        refine sMo_fetch_70 (i1 := 3) rfl (by rw [ml_8]; omega) (fun _ => fin μ7 _ f7 y50 P7 ⟨y8, fun i hi => y6 i (by omega), M6.2.2⟩) (fun z => absurd (show μ7.2 8 3 ≤ nI j by rw [M3'.1]; exact nI_le (by omega) (by omega)) z)
      | succ m ih =>
        intro j μ7 hj f7 y50 P7 y8 y6
        have M3' : mMk μ7 3 (A.2.2.2.drop 1) := M4.ra (f7.2.2 3 (by decide))
        refine sMo_fetch_70 (i1 := 3) rfl (by rw [ml_8]; omega) (fun z => absurd (show nI (A.2.2.2.drop 1).length ≤ nI j by rw [← M3'.1]; exact z) (nI_ge (by omega) (by omega))) (fun _ => ?_)
        refine sMo_fetch_80 (i1 := 585 + j) (nI_add _ _) (by rw [ml_6]; omega) (i := 4035 + j) (nI_add _ _) (by rw [ml_6]; omega) ?_
        refine sMo_fetch_100 ?_
        have e6 : μ7.2 6 (585 + j) = nI ((A.2.2.2.drop 1).getD j 0) := M3'.2.1 j (by omega)
        rw [nI_add, e6, n8 (M6.2.2.2.at j)]
        have p8 := P7.2.2.1
        refine ih (j + 1) _ (by omega) (f7.p6 (r0 := 26) (j0 := 135 + j) (by decide) (by omega) (by omega)) y50 ⟨?_, fun i hi => ?_, P7.2.2⟩ ?_ (fun i hi => ?_)
        · dsimp only; rw [updA_n (by decide)]; exact P7.1
        · dsimp only; rw [updA_s, pk_un (by omega)]; exact P7.2.1 i hi
        · dsimp only; rw [updA_n (by decide)]; exact y8
        · dsimp only
          rw [updA_s]
          by_cases w : i = j
          · rw [w, show 26 * 150 + 135 + j = 4035 + j by omega, pk_us]
          · rw [pk_un (by omega)]; exact y6 i (by omega)
    refine loop (A.2.2.2.drop 1).length 0 _ (by omega) f7 x50 ⟨?_, fun i hi => ?_, P6.2.2⟩ ?_ (fun i hi => absurd hi (Nat.not_lt_zero _))
    · dsimp only; rw [updA_n (by decide)]; exact P6.1
    · dsimp only; rw [updA_n (by decide)]; exact P6.2.1 i hi
    · dsimp only; rw [updA_s, pk_us]
end NA
