/-! The model's cookies. -/
def rS (μ : zMm) (s : List Nat) : Prop := μ.1 37 = nI s.length ∧ mN (μ.2 36) 0 s ∧ zLo s
def mCk (μ : zMm) (c : Nat) (k : zCk) : Prop := μ.2 32 c = nI k.1.length ∧ μ.2 33 c = nI k.2.1.length ∧ μ.2 34 c = nI k.2.2.length ∧ mN (μ.2 31) (24 * c) k.1 ∧ mN (μ.2 31) (24 * c + 8) k.2.1 ∧ mN (μ.2 31) (24 * c + 16) k.2.2
/-- the jar's place c is as it was -/
def mCm (μ μ' : zMm) (c : Nat) : Prop := μ'.2 32 c = μ.2 32 c ∧ μ'.2 33 c = μ.2 33 c ∧ μ'.2 34 c = μ.2 34 c ∧ ∀ j, j < 24 → μ'.2 31 (24 * c + j) = μ.2 31 (24 * c + j)
theorem zCkW.le {k : zCk} (h : zCkW k) : k.1.length ≤ 8 ∧ k.2.1.length ≤ 8 ∧ k.2.2.length ≤ 8 := ⟨(zNm_all h.1).2.1, (zNm_all h.2.1).2.1, (zNm_all h.2.2).2.1⟩
theorem zNm_lo {x : List Nat} (h : zNm x = true) : zLo x := zLo_all zNc_lo (zNm_all h).2.2
theorem mCk.cm {μ μ' : zMm} {c : Nat} {k : zCk} (h : mCk μ c k) (hw : zCkW k) (m : mCm μ μ' c) : mCk μ' c k := by
  obtain ⟨h1, h2, h3, h4, h5, h6⟩ := h
  obtain ⟨l1, l2, l3⟩ := hw.le
  obtain ⟨m1, m2, m3, m4⟩ := m
  refine ⟨m1.trans h1, m2.trans h2, m3.trans h3, fun j hj => ?_, fun j hj => ?_, fun j hj => ?_⟩
  · rw [m4 j (by omega)]; exact h4 j hj
  · rw [Nat.add_assoc, m4 (8 + j) (by omega), ← Nat.add_assoc]; exact h5 j hj
  · rw [Nat.add_assoc, m4 (16 + j) (by omega), ← Nat.add_assoc]; exact h6 j hj
theorem rC.at {μ : zMm} {cs : List zCk} (h : rC μ cs) {c : Nat} (hc : c < cs.length) : mCk μ c cs[c] := h.2 c hc
theorem rC.put {μ μ' : zMm} {cs : List zCk} {c : Nat} {k : zCk} (h : rC μ cs) (hcw : ∀ c ∈ cs, zCkW c) (hl : cs.length ≤ 20) (hc : c ≤ cs.length) (h30 : μ'.1 30 = nI (if c < cs.length then cs.length else cs.length + 1)) (hk : mCk μ' c k) (hm : ∀ e, e < 20 → e ≠ c → mCm μ μ' e) : rC μ' (if c < cs.length then cs.set c k else cs ++ [k]) := by
  by_cases q : c < cs.length
  · rw [if_pos q] at h30 ⊢
    refine ⟨by rw [List.length_set]; exact h30, fun e he => ?_⟩
    rw [List.length_set] at he
    show mCk μ' e _
    by_cases w : e = c
    · subst w
      rw [List.getElem_set_self]; exact hk
    · rw [List.getElem_set_ne (Ne.symm w)]
      exact (h.at he).cm (hcw _ (List.getElem_mem _)) (hm e (by omega) w)
  · rw [if_neg q] at h30 ⊢
    refine ⟨by rw [List.length_append]; exact h30, fun e he => ?_⟩
    rw [List.length_append] at he
    simp only [List.length_cons, List.length_nil] at he
    show mCk μ' e _
    by_cases w : e = c
    · have hec : e = cs.length := (by omega)
      have : (cs ++ [k])[e]'(by simp; omega) = k := by simp [hec]
      rw [this, w]; exact hk
    · have hlt : e < cs.length := (by omega)
      rw [List.getElem_append_left hlt]
      exact (h.at hlt).cm (hcw _ (List.getElem_mem _)) (hm e (by omega) w)
section MU
variable {G : zG} {d : Nat} {ad : Nat → Nat} {μ : zMm} {c : Nat} {t s : List Nat} {A : zA} {cs : List zCk}
theorem mN_site {r : Nat} (h : mPw μ r (zPl A)) : mN (μ.2 6) (r * 150 + 2) A.1 := by
  have e : zPl A = [47, 47] ++ (A.1 ++ (zFlat A.2.1 ++ A.2.2.1)) := by unfold zPl; simp only [List.append_assoc]
  have := h.2.1
  rw [e, mN_app] at this
  exact (mN_app.mp this.2).1
theorem mc_tokenEnd (hC : zCs G) (hd : 1 ≤ d) (h3 : μ.1 3 = nI t.length) (ht : mN (μ.2 2) 0 t) (hlo : zLo t) (htl : t.length ≤ 2000) {a : Nat} (ha : a ≤ t.length) : mC G d ad M_Mo_tokenEnd [.ref (ad 50), .int (nI a)] μ (mRd μ (nI (a + zTw zNb (t.drop a)))) := by
  have hdl : (t.drop a).length = t.length - a := List.length_drop
  have htw := tw_le zNb (t.drop a)
  have at' : ∀ i, i < t.length → μ.2 2 i = nI (t.getD i 0) := fun i hi => by have := ht i hi; rw [Nat.zero_add] at this; exact this
  refine mC_in [some (.ref (ad 50)), some (.int (nI a)), none] pn_Mo_tokenEnd hC.1 rfl (Nat.le_of_ble_eq_true rfl) rfl ?_
  refine sMo_tokenEnd_0 ?_
  have main : ∀ n j, j + n = zTw zNb (t.drop a) → mW G d ad M_Mo_tokenEnd 2 [some (.ref (ad 50)), some (.int (nI a)), some (.int (nI (a + j)))] [] μ (mRd μ (nI (a + zTw zNb (t.drop a)))) := by
    intro n
    induction n with
    | zero =>
      intro j hj
      rw [Nat.add_zero] at hj
      rw [hj]
      by_cases q : zTw zNb (t.drop a) < (t.drop a).length
      · refine sMo_tokenEnd_2 (fun z => absurd (show nI t.length ≤ nI (a + zTw zNb (t.drop a)) by rw [← h3]; exact z) (nI_ge (by omega) (by omega))) (fun _ => ?_)
        have he := tw_end zNb (t.drop a) q
        rw [getD_drop] at he
        refine sMo_tokenEnd_10 (i1 := a + zTw zNb (t.drop a)) rfl (by rw [ml_2]; omega) (by omega) (Nat.le_of_ble_eq_true rfl) (by rw [at' _ (by omega)]; exact mc_blank hC (hlo.at _)) ?_
        rintro r μ1 ⟨rfl, rfl⟩
        rw [he]
        exact sMo_tokenEnd_19 (fun _ => sMo_tokenEnd_28 ⟨_, rfl, rfl, rfl⟩) (fun z => absurd z (by decide))
      · exact sMo_tokenEnd_2 (fun _ => sMo_tokenEnd_28 ⟨_, rfl, rfl, rfl⟩) (fun z => absurd (show μ.1 3 ≤ nI (a + zTw zNb (t.drop a)) by rw [h3]; exact nI_le (by omega) (by omega)) z)
    | succ n ih =>
      intro j hj
      refine sMo_tokenEnd_2 (fun z => absurd (show nI t.length ≤ nI (a + j) by rw [← h3]; exact z) (nI_ge (by omega) (by omega))) (fun _ => ?_)
      have he := tw_at zNb (t.drop a) j (by omega)
      rw [getD_drop] at he
      refine sMo_tokenEnd_10 (i1 := a + j) rfl (by rw [ml_2]; omega) (by omega) (Nat.le_of_ble_eq_true rfl) (by rw [at' _ (by omega)]; exact mc_blank hC (hlo.at _)) ?_
      rintro r μ1 ⟨rfl, rfl⟩
      rw [he]
      refine sMo_tokenEnd_19 (fun z => absurd (by decide) z) (fun _ => ?_)
      refine sMo_tokenEnd_22 ?_
      rw [nI_add]
      exact ih (j + 1) (by omega)
  exact main (zTw zNb (t.drop a)) 0 (by omega)
theorem mc_send (hC : zCs G) (h : rS μ s) (hl : s.length < 400) (hc : c < 128) : mC G d ad M_Mo_send [.ref (ad 50), .int (nI c)] μ (mPv fun μ' => rS μ' (s ++ [c]) ∧ mFm [37] [36] [] μ μ') := by
  refine mC_in [some (.ref (ad 50)), some (.int (nI c))] pn_Mo_send hC.1 rfl (Nat.le_of_ble_eq_true rfl) rfl ?_
  refine sMo_send_0 (i := s.length) h.1 (by rw [ml_36]; omega) ?_
  refine sMo_send_11 ?_
  rw [n8 hc, n8 hc]
  refine sMo_send_21 ⟨rfl, ⟨?_, ?_, zLo_app h.2.2 (zLo_1 hc)⟩, (mFm.rf.pa (by decide) (by decide) (by decide) (by decide)).pi (by decide)⟩
  · dsimp only
    rw [pk_us, h.1, nI_add, List.length_append]; rfl
  · dsimp only
    rw [updA_s, mN_app]
    refine ⟨fun j hj => ?_, fun j hj => ?_⟩
    · rw [pk_un (by omega)]; exact h.2.1 j hj
    · simp only [List.length_cons, List.length_nil] at hj
      rw [show j = 0 by omega, Nat.add_zero, Nat.zero_add, pk_us]; rfl
theorem mc_tell (hC : zCs G) (hd : 2 ≤ d) (h : rC μ cs) (hcw : ∀ c ∈ cs, zCkW c) (hl : cs.length ≤ 20) (hf : mPw μ 4 (zPl A)) (hw : zWf A) : mC G d ad M_Mo_tellCookies [.ref (ad 50)] μ (mPv fun μ' => rS μ' (zTell A.1 cs) ∧ mFm [37] [36] [] μ μ') := by
  have hA := zNm_all hw.1
  refine mC_in [some (.ref (ad 50)), none, none, none] pn_Mo_tellCookies hC.1 rfl (Nat.le_of_ble_eq_true rfl) rfl ?_
  refine sMo_tellCookies_0 ?_
  have F0 : mFm [37] [36] [] μ (upd μ.1 37 (nI 0), μ.2) := mFm.rf.pi (by decide)
  refine sMo_tellCookies_5 (by omega) (Nat.le_of_ble_eq_true rfl) (mc_siteEnd hC (by decide) (hf.fm F0 (by decide)) hw) ?_
  rintro r μ1 ⟨rfl, rfl⟩
  refine sMo_tellCookies_10 ?_
  have e2 : nI (2 + A.1.length) - nI 2 = nI A.1.length := by rw [pk_sub (by omega)]; congr 1; omega
  rw [e2]
  have main : ∀ n c (μ1 : zMm) (o3 : Option Value), c + n = cs.length → mFm [37] [36] [] μ μ1 → rS μ1 (zTell A.1 (cs.take c)) → mW G d ad M_Mo_tellCookies 15 [some (.ref (ad 50)), some (.int (nI A.1.length)), some (.int (nI c)), o3] [] μ1 (mPv fun μ' => rS μ' (zTell A.1 cs) ∧ mFm [37] [36] [] μ μ') := by
    intro n
    induction n with
    | zero =>
      intro c μ1 o3 hc hF hS
      rw [List.take_of_length_le (by omega)] at hS
      have e30 : μ1.1 30 = nI cs.length := (hF.1 30 (by decide)).trans h.1
      exact sMo_tellCookies_15 (fun _ => sMo_tellCookies_155 ⟨rfl, hS, hF⟩) (fun z => absurd (show μ1.1 30 ≤ nI c by rw [e30]; exact nI_le (by omega) (by omega)) z)
    | succ n ih =>
      intro c μ1 o3 hc hF hS
      have hcl : c < cs.length := (by omega)
      have e30 : μ1.1 30 = nI cs.length := (hF.1 30 (by decide)).trans h.1
      have tl := zTell_len (site := A.1) hcw c (by omega)
      have hck := hcw _ (List.getElem_mem hcl)
      obtain ⟨l1, l2, l3⟩ := hck.le
      have ent : ∀ {μ2 : zMm}, mFm [37] [36] [] μ μ2 → mCk μ2 c cs[c] := fun f => by
        have := (h.fm f (by decide) (fun k a b => (by simp only [List.mem_cons, List.not_mem_nil, or_false]; omega))).at hcl
        exact this
      have en1 := ent hF
      have hsite := mN_site (hf.fm hF (by decide))
      have hT := tell_take (site := A.1) hcl
      have next : ∀ (μ2 : zMm) (o3 : Option Value), mFm [37] [36] [] μ μ2 → rS μ2 (zTell A.1 (cs.take (c + 1))) → mW G d ad M_Mo_tellCookies 15 [some (.ref (ad 50)), some (.int (nI A.1.length)), some (.int (nI c + nI 1)), o3] [] μ2 (mPv fun μ' => rS μ' (zTell A.1 cs) ∧ mFm [37] [36] [] μ μ') := fun μ2 o3 f g => by
        rw [nI_add]
        exact ih (c + 1) μ2 o3 (by omega) f g
      refine sMo_tellCookies_15 (fun z => absurd (show nI cs.length ≤ nI c by rw [← e30]; exact z) (nI_ge (by omega) (by omega))) (fun _ => ?_)
      have no : ¬ cs[c].1 = A.1 → zTell A.1 (cs.take (c + 1)) = zTell A.1 (cs.take c) := fun w => by rw [hT]; unfold zT1; rw [if_neg w]
      refine sMo_tellCookies_23 (i1 := c) rfl (by rw [ml_32]; omega) (fun z => ?_) (fun z => ?_)
      · refine sMo_tellCookies_149 (next μ1 o3 hF ?_)
        rw [no (fun w => z (by rw [en1.1, w]))]; exact hS
      · rw [en1.1] at z
        have hlen := (nI_eq (by omega) (by omega)).mp z
        refine sMo_tellCookies_33 (by omega) (Nat.le_of_ble_eq_true rfl) (by rw [pk_mul, ← hlen]; exact mc_same hC mk_31 mk_6 en1.2.2.2.1 (b := 602) hsite (zNm_lo hck.1) (zNm_lo hw.1) hlen (by rw [ml_31]; omega) (by rw [ml_6]; omega)) ?_
        rintro r μ2 ⟨rfl, rfl⟩
        by_cases q : cs[c].1 = A.1
        · rw [beq_iff_eq.mpr q]
          refine sMo_tellCookies_52 (fun _ => ?_) (fun z => absurd z (by decide))
          -- the rest of one cookie, behind the ;
          have body : ∀ (μ3 : zMm) (acc : List Nat) (o3 : Option Value), acc.length ≤ 18 * c + 1 → mFm [37] [36] [] μ μ3 → rS μ3 acc → acc ++ cs[c].2.1 ++ [61] ++ cs[c].2.2 = zTell A.1 (cs.take (c + 1)) → mW G d ad M_Mo_tellCookies 71 [some (.ref (ad 50)), some (.int (nI A.1.length)), some (.int (nI c)), o3] [] μ3 (mPv fun μ' => rS μ' (zTell A.1 cs) ∧ mFm [37] [36] [] μ μ') := by
            intro μ3 acc o3 hal hF3 hS3 hfin
            refine sMo_tellCookies_71 ?_
            have lp2 : ∀ n j (μ4 : zMm), j + n = cs[c].2.2.length → mFm [37] [36] [] μ μ4 → rS μ4 (acc ++ cs[c].2.1 ++ [61] ++ cs[c].2.2.take j) → mW G d ad M_Mo_tellCookies 115 [some (.ref (ad 50)), some (.int (nI A.1.length)), some (.int (nI c)), some (.int (nI j))] [] μ4 (mPv fun μ' => rS μ' (zTell A.1 cs) ∧ mFm [37] [36] [] μ μ') := by
              intro n
              induction n with
              | zero =>
                intro j μ4 hj hF4 hS4
                rw [List.take_of_length_le (by omega), hfin] at hS4
                have en := ent hF4
                refine sMo_tellCookies_115 (i1 := c) rfl (by rw [ml_34]; omega) (fun _ => sMo_tellCookies_149 (next μ4 _ hF4 hS4)) (fun z => absurd (show μ4.2 34 c ≤ nI j by rw [en.2.2.1]; exact nI_le (by omega) (by omega)) z)
              | succ n ih2 =>
                intro j μ4 hj hF4 hS4
                have en := ent hF4
                refine sMo_tellCookies_115 (i1 := c) rfl (by rw [ml_34]; omega) (fun z => absurd (show nI cs[c].2.2.length ≤ nI j by rw [← en.2.2.1]; exact z) (nI_ge (by omega) (by omega))) (fun _ => ?_)
                refine sMo_tellCookies_125 (i1 := 24 * c + 16 + j) (by rw [pk_mul, nI_add, nI_add]) (by rw [ml_31]; omega) (by omega) (Nat.le_of_ble_eq_true rfl) (by rw [en.2.2.2.2.2 j (by omega)]; exact mc_send hC hS4 (by simp only [List.length_append, List.length_take, List.length_cons, List.length_nil]; omega) ((zNm_lo hck.2.2).at j)) ?_
                rintro μ5 ⟨g1, g2⟩
                refine sMo_tellCookies_143 ?_
                rw [nI_add]
                refine ih2 (j + 1) μ5 (by omega) (hF4.tr g2) ?_
                rw [take_s (by omega), ← List.append_assoc]; exact g1
            have lp1 : ∀ n j (μ4 : zMm), j + n = cs[c].2.1.length → mFm [37] [36] [] μ μ4 → rS μ4 (acc ++ cs[c].2.1.take j) → mW G d ad M_Mo_tellCookies 73 [some (.ref (ad 50)), some (.int (nI A.1.length)), some (.int (nI c)), some (.int (nI j))] [] μ4 (mPv fun μ' => rS μ' (zTell A.1 cs) ∧ mFm [37] [36] [] μ μ') := by
              intro n
              induction n with
              | zero =>
                intro j μ4 hj hF4 hS4
                rw [List.take_of_length_le (by omega)] at hS4
                have en := ent hF4
                refine sMo_tellCookies_73 (i1 := c) rfl (by rw [ml_33]; omega) (fun _ => ?_) (fun z => absurd (show μ4.2 33 c ≤ nI j by rw [en.2.1]; exact nI_le (by omega) (by omega)) z)
                refine sMo_tellCookies_107 (by omega) (Nat.le_of_ble_eq_true rfl) (mc_send hC hS4 (by simp only [List.length_append]; omega) (by decide)) ?_
                rintro μ5 ⟨g1, g2⟩
                refine sMo_tellCookies_113 ?_
                exact lp2 cs[c].2.2.length 0 μ5 (by omega) (hF4.tr g2) (by rw [List.take_zero, List.append_nil]; exact g1)
              | succ n ih2 =>
                intro j μ4 hj hF4 hS4
                have en := ent hF4
                refine sMo_tellCookies_73 (i1 := c) rfl (by rw [ml_33]; omega) (fun z => absurd (show nI cs[c].2.1.length ≤ nI j by rw [← en.2.1]; exact z) (nI_ge (by omega) (by omega))) (fun _ => ?_)
                refine sMo_tellCookies_83 (i1 := 24 * c + 8 + j) (by rw [pk_mul, nI_add, nI_add]) (by rw [ml_31]; omega) (by omega) (Nat.le_of_ble_eq_true rfl) (by rw [en.2.2.2.2.1 j (by omega)]; exact mc_send hC hS4 (by simp only [List.length_append, List.length_take]; omega) ((zNm_lo hck.2.1).at j)) ?_
                rintro μ5 ⟨g1, g2⟩
                refine sMo_tellCookies_101 ?_
                rw [nI_add]
                refine ih2 (j + 1) μ5 (by omega) (hF4.tr g2) ?_
                rw [take_s (by omega), ← List.append_assoc]; exact g1
            exact lp1 cs[c].2.1.length 0 μ3 (by omega) hF3 (by rw [List.take_zero, List.append_nil]; exact hS3)
          by_cases q0 : zTell A.1 (cs.take c) = []
          · refine sMo_tellCookies_58 (fun _ => ?_) (fun z => absurd (show μ2.1 37 ≤ 0 by rw [hS.1, q0]; decide) z)
            refine body μ2 [] o3 (Nat.zero_le _) hF (by rw [← q0]; exact hS) ?_
            rw [hT]; unfold zT1; rw [if_pos q, if_pos q0]
          · have hpos := List.length_pos_iff.mpr q0
            refine sMo_tellCookies_58 (fun z => absurd (show nI (zTell A.1 (cs.take c)).length ≤ 0 by rw [← hS.1]; exact z) (nI_nle (by omega) (by omega))) (fun _ => ?_)
            refine sMo_tellCookies_65 (by omega) (Nat.le_of_ble_eq_true rfl) (mc_send hC hS (by omega) (by decide)) ?_
            rintro μ3 ⟨g1, g2⟩
            refine body μ3 _ o3 (by rw [List.length_append]; simp only [List.length_cons, List.length_nil]; omega) (hF.tr g2) g1 ?_
            rw [hT]; unfold zT1; rw [if_pos q, if_neg q0]
        · rw [beq_eq_false_iff_ne.mpr q]
          refine sMo_tellCookies_52 (fun z => absurd (by decide) z) (fun _ => ?_)
          refine sMo_tellCookies_55 (next μ2 o3 hF ?_)
          rw [no q]; exact hS
  exact main cs.length 0 _ none (by omega) F0 ⟨pu_s, (fun i hi => absurd hi (Nat.not_lt_zero _)), (fun c hc => by cases hc)⟩
theorem mc_drop (hC : zCs G) (hd : 2 ≤ d) (h : rC μ cs) (hcw : ∀ c ∈ cs, zCkW c) (hl : cs.length ≤ 20) (hf : mPw μ 4 (zPl A)) (hw : zWf A) {g : Nat} (hg : g < 12) {nm vl : List Nat} (h21 : μ.2 21 g = nI nm.length) (h22 : μ.2 22 g = nI vl.length) (hn : mN (μ.2 20) (16 * g) nm) (hv : mN (μ.2 20) (16 * g + 8) vl) (hnm : zNm nm = true) (hvl : zNm vl = true) : mC G d ad M_Mo_dropCookie [.ref (ad 50), .int (nI g)] μ (mPv fun μ' => rC μ' (zJput cs (A.1, nm, vl)) ∧ mFm [30] [31, 32, 33, 34] [] μ μ') := by
  have hA := zNm_all hw.1
  have hN := zNm_all hnm
  have hV := zNm_all hvl
  have hsite := mN_site hf
  refine mC_in [some (.ref (ad 50)), some (.int (nI g)), none, none, none] pn_Mo_dropCookie hC.1 rfl (Nat.le_of_ble_eq_true rfl) rfl ?_
  refine sMo_dropCookie_0 (by omega) (Nat.le_of_ble_eq_true rfl) (mc_siteEnd hC (by decide) hf hw) ?_
  rintro r μ1 ⟨rfl, rfl⟩
  refine sMo_dropCookie_5 ?_
  have e2 : nI (2 + A.1.length) - nI 2 = nI A.1.length := by rw [pk_sub (by omega)]; congr 1; omega
  rw [e2]
  -- it is put at the place c
  have store : ∀ c, c ≤ cs.length → c < 20 → zJput cs (A.1, nm, vl) = (if c < cs.length then cs.set c (A.1, nm, vl) else cs ++ [(A.1, nm, vl)]) → mW G d ad M_Mo_dropCookie 109 [some (.ref (ad 50)), some (.int (nI g)), some (.int (nI A.1.length)), some (.int (nI c)), none] [] μ1 (mPv fun μ' => rC μ' (zJput cs (A.1, nm, vl)) ∧ mFm [30] [31, 32, 33, 34] [] μ1 μ') := by
    intro c hcl hc20 hJ
    rw [hJ]
    -- behind the count
    have rest : ∀ μ2 : zMm, μ2.2 = μ1.2 → (∀ k, k ≠ 30 → μ2.1 k = μ1.1 k) → μ2.1 30 = nI (if c < cs.length then cs.length else cs.length + 1) → mW G d ad M_Mo_dropCookie 134 [some (.ref (ad 50)), some (.int (nI g)), some (.int (nI A.1.length)), some (.int (nI c)), none] [] μ2 (mPv fun μ' => rC μ' (if c < cs.length then cs.set c (A.1, nm, vl) else cs ++ [(A.1, nm, vl)]) ∧ mFm [30] [31, 32, 33, 34] [] μ1 μ') := by
      intro μ2 e0 e1 e30
      refine sMo_dropCookie_134 (i := c) rfl (by rw [ml_32]; omega) ?_
      refine sMo_dropCookie_141 (i1 := g) rfl (by rw [ml_21]; omega) (i := c) rfl (by rw [ml_33]; omega) ?_
      refine sMo_dropCookie_153 (i1 := g) rfl (by rw [ml_22]; omega) (i := c) rfl (by rw [ml_34]; omega) ?_
      refine sMo_dropCookie_165 ?_
      generalize hμ3 : (((μ2.1, updA μ2.2 32 c (nI A.1.length)).1, updA (μ2.1, updA μ2.2 32 c (nI A.1.length)).2 33 c ((μ2.1, updA μ2.2 32 c (nI A.1.length)).2 21 g)) : zMm) = μx
      have x33 : updA μx.2 34 c (μx.2 22 g) = updA (updA (updA μ1.2 32 c (nI A.1.length)) 33 c (nI nm.length)) 34 c (nI vl.length) := by
        rw [← hμ3]
        dsimp only
        rw [e0, updA_n (by decide), updA_n (by decide), updA_n (by decide), h21, h22]
      have x1 : μx.1 = μ2.1 := by rw [← hμ3]
      rw [x33, x1]
      generalize hB : updA (updA (updA μ1.2 32 c (nI A.1.length)) 33 c (nI nm.length)) 34 c (nI vl.length) = B
      have b31 : B 31 = μ1.2 31 := by rw [← hB, updA_n (by decide), updA_n (by decide), updA_n (by decide)]
      have b32 : B 32 = upd (μ1.2 32) c (nI A.1.length) := by rw [← hB, updA_n (by decide), updA_n (by decide), updA_s]
      have b33 : B 33 = upd (μ1.2 33) c (nI nm.length) := by rw [← hB, updA_n (by decide), updA_s, updA_n (by decide)]
      have b34 : B 34 = upd (μ1.2 34) c (nI vl.length) := by rw [← hB, updA_s, updA_n (by decide), updA_n (by decide)]
      have bo : ∀ k, k ≠ 32 → k ≠ 33 → k ≠ 34 → B k = μ1.2 k := fun k k1 k2 k3 => by rw [← hB, updA_n k3, updA_n k2, updA_n k1]
      -- the end
      have fin : ∀ μ3 : zMm, μ3.1 = μ2.1 → (∀ k, k ≠ 31 → μ3.2 k = B k) → (∀ i, ¬ (24 * c ≤ i ∧ i < 24 * c + 24) → μ3.2 31 i = μ1.2 31 i) → mN (μ3.2 31) (24 * c) A.1 → mN (μ3.2 31) (24 * c + 8) nm → mN (μ3.2 31) (24 * c + 16) vl → rC μ3 (if c < cs.length then cs.set c (A.1, nm, vl) else cs ++ [(A.1, nm, vl)]) ∧ mFm [30] [31, 32, 33, 34] [] μ1 μ3 := by
        intro μ3 f1 f2 f3 f4 f5 f6
        refine ⟨h.put hcw hl hcl (by rw [f1]; exact e30) ⟨?_, ?_, ?_, f4, f5, f6⟩ (fun e he hne => ⟨?_, ?_, ?_, fun j hj => f3 _ (by omega)⟩), fun k hk => ?_, fun k hk k6 k7 k8 => ?_, fun r _ => ⟨?_, ?_, fun j _ => ?_⟩⟩
        · rw [f2 32 (by decide), b32, pk_us]
        · rw [f2 33 (by decide), b33, pk_us]
        · rw [f2 34 (by decide), b34, pk_us]
        · rw [f2 32 (by decide), b32, pk_un hne]
        · rw [f2 33 (by decide), b33, pk_un hne]
        · rw [f2 34 (by decide), b34, pk_un hne]
        · rw [f1]; exact e1 k (fun z => hk (by rw [z]; decide))
        · rw [f2 k (fun z => hk (by rw [z]; decide)), bo k (fun z => hk (by rw [z]; decide)) (fun z => hk (by rw [z]; decide)) (fun z => hk (by rw [z]; decide))]
        · rw [f2 7 (by decide), bo 7 (by decide) (by decide) (by decide)]
        · rw [f2 8 (by decide), bo 8 (by decide) (by decide) (by decide)]
        · rw [f2 6 (by decide), bo 6 (by decide) (by decide) (by decide)]
      have lp2 : ∀ n j (μ3 : zMm), j + n = 8 → μ3.1 = μ2.1 → (∀ k, k ≠ 31 → μ3.2 k = B k) → (∀ i, ¬ (24 * c ≤ i ∧ i < 24 * c + 24) → μ3.2 31 i = μ1.2 31 i) → mN (μ3.2 31) (24 * c) A.1 → (∀ i, i < j → μ3.2 31 (24 * c + 8 + i) = (μ1.2 20 (16 * g + i)).toInt8.toInt32 ∧ μ3.2 31 (24 * c + 16 + i) = (μ1.2 20 (16 * g + 8 + i)).toInt8.toInt32) → mW G d ad M_Mo_dropCookie 206 [some (.ref (ad 50)), some (.int (nI g)), some (.int (nI A.1.length)), some (.int (nI c)), some (.int (nI j))] [] μ3 (mPv fun μ' => rC μ' (if c < cs.length then cs.set c (A.1, nm, vl) else cs ++ [(A.1, nm, vl)]) ∧ mFm [30] [31, 32, 33, 34] [] μ1 μ') := by
        intro n
        induction n with
        | zero =>
          intro j μ3 hj f1 f2 f3 f4 f5
          refine sMo_dropCookie_206 (fun _ => sMo_dropCookie_276 ⟨rfl, fin μ3 f1 f2 f3 f4 (fun i hi => ?_) (fun i hi => ?_)⟩) (fun z => absurd (nI_le (by omega) (by omega)) z)
          · rw [(f5 i (by omega)).1, hn i hi, n8 ((zNm_lo hnm).at i)]
          · rw [(f5 i (by omega)).2, hv i hi, n8 ((zNm_lo hvl).at i)]
        | succ n ih =>
          intro j μ3 hj f1 f2 f3 f4 f5
          refine sMo_dropCookie_206 (fun z => absurd z (nI_ge (by omega) (by omega))) (fun _ => ?_)
          refine sMo_dropCookie_213 (i1 := 16 * g + j) (by rw [pk_mul, nI_add]) (by rw [ml_20]; omega) (i := 24 * c + 8 + j) (by rw [pk_mul, nI_add, nI_add]) (by rw [ml_31]; omega) ?_
          refine sMo_dropCookie_240 (i1 := 16 * g + 8 + j) (by rw [pk_mul, nI_add, nI_add]) (by rw [ml_20]; omega) (i := 24 * c + 16 + j) (by rw [pk_mul, nI_add, nI_add]) (by rw [ml_31]; omega) ?_
          refine sMo_dropCookie_270 ?_
          rw [nI_add]
          have e20 : μ3.2 20 = μ1.2 20 := (f2 20 (by decide)).trans (bo 20 (by decide) (by decide) (by decide))
          refine ih (j + 1) _ (by omega) f1 (fun k hk => ?_) (fun i hi => ?_) (fun i hi => ?_) (fun i hi => ?_)
          · dsimp only
            rw [updA_n hk, updA_n hk]; exact f2 k hk
          · dsimp only
            rw [updA_s, pk_un (by omega), updA_s, pk_un (by omega)]; exact f3 i hi
          · dsimp only
            rw [updA_s, pk_un (by omega), updA_s, pk_un (by omega)]; exact f4 i hi
          · dsimp only
            rw [updA_s, updA_s, show updA μ3.2 31 (24 * c + 8 + j) ((μ3.2 20 (16 * g + j)).toInt8.toInt32) 20 = μ1.2 20 from (updA_n (by decide)).trans e20, e20]
            by_cases q : i = j
            · subst q
              exact ⟨by rw [pk_un (by omega), pk_us], by rw [pk_us]⟩
            · exact ⟨by rw [pk_un (by omega), pk_un (by omega)]; exact (f5 i (by omega)).1, by rw [pk_un (by omega), pk_un (by omega)]; exact (f5 i (by omega)).2⟩
      have lp1 : ∀ n j (μ3 : zMm), j + n = A.1.length → μ3.1 = μ2.1 → (∀ k, k ≠ 31 → μ3.2 k = B k) → (∀ i, ¬ (24 * c ≤ i ∧ i < 24 * c + 24) → μ3.2 31 i = μ1.2 31 i) → (∀ i, i < j → μ3.2 31 (24 * c + i) = nI (A.1.getD i 0)) → mW G d ad M_Mo_dropCookie 168 [some (.ref (ad 50)), some (.int (nI g)), some (.int (nI A.1.length)), some (.int (nI c)), some (.int (nI j))] [] μ3 (mPv fun μ' => rC μ' (if c < cs.length then cs.set c (A.1, nm, vl) else cs ++ [(A.1, nm, vl)]) ∧ mFm [30] [31, 32, 33, 34] [] μ1 μ') := by
        intro n
        induction n with
        | zero =>
          intro j μ3 hj f1 f2 f3 f4
          refine sMo_dropCookie_168 (fun _ => ?_) (fun z => absurd (nI_le (by omega) (by omega)) z)
          refine sMo_dropCookie_203 ?_
          exact lp2 8 0 μ3 (by omega) f1 f2 f3 (fun i hi => f4 i (by omega)) (fun i hi => absurd hi (Nat.not_lt_zero _))
        | succ n ih =>
          intro j μ3 hj f1 f2 f3 f4
          refine sMo_dropCookie_168 (fun z => absurd z (nI_ge (by omega) (by omega))) (fun _ => ?_)
          refine sMo_dropCookie_174 (i1 := 602 + j) (nI_add _ _) (by rw [ml_6]; omega) (i := 24 * c + j) (by rw [pk_mul, nI_add]) (by rw [ml_31]; omega) ?_
          refine sMo_dropCookie_197 ?_
          rw [nI_add]
          have e6 : μ3.2 6 (602 + j) = nI (A.1.getD j 0) := by
            rw [f2 6 (by decide), bo 6 (by decide) (by decide) (by decide)]
            exact hsite j (by omega)
          refine ih (j + 1) _ (by omega) f1 (fun k hk => ?_) (fun i hi => ?_) (fun i hi => ?_)
          · dsimp only
            rw [updA_n hk]; exact f2 k hk
          · dsimp only
            rw [updA_s, pk_un (by omega)]; exact f3 i hi
          · dsimp only
            rw [updA_s]
            by_cases q : i = j
            · rw [q, pk_us, e6, n8 ((zNm_lo hw.1).at j)]
            · rw [pk_un (by omega)]; exact f4 i (by omega)
      exact lp1 A.1.length 0 _ (by omega) rfl (fun _ _ => rfl) (fun i _ => by dsimp only; rw [b31]) (fun i hi => absurd hi (Nat.not_lt_zero _))
    by_cases q : c < cs.length
    · refine sMo_dropCookie_109 (fun _ => sMo_dropCookie_127 (rest _ rfl (fun k hk => pk_un hk) ?_)) (fun z => absurd ((nI_eq (by omega) (by omega)).mp (show nI c = nI cs.length by rw [← h.1]; exact z)) (by omega))
      dsimp only
      rw [pk_us, if_pos q]; exact h.1
    · refine sMo_dropCookie_109 (fun z => absurd (show nI c = μ1.1 30 by rw [h.1]; congr 1; omega) z) (fun _ => sMo_dropCookie_118 (rest _ rfl (fun k hk => pk_un hk) ?_))
      dsimp only
      rw [pk_us, if_neg q, h.1, nI_add]
  -- behind the search
  have aft : mW G d ad M_Mo_dropCookie 102 [some (.ref (ad 50)), some (.int (nI g)), some (.int (nI A.1.length)), some (.int (nI (zFi (zCsp A.1 nm) cs))), none] [] μ1 (mPv fun μ' => rC μ' (zJput cs (A.1, nm, vl)) ∧ mFm [30] [31, 32, 33, 34] [] μ1 μ') := by
    have hle := fi_le (p := zCsp A.1 nm) (xs := cs)
    by_cases q : zFi (zCsp A.1 nm) cs = 20
    · refine sMo_dropCookie_102 (fun z => absurd (by rw [q]) z) (fun _ => sMo_dropCookie_108 ⟨rfl, ?_, mFm.rf⟩)
      unfold zJput
      rw [if_neg (by show ¬ zFi (zCsp A.1 nm) cs < cs.length; omega), if_neg (by omega)]; exact h
    · refine sMo_dropCookie_102 (fun _ => store _ hle (by omega) ?_) (fun z => absurd ((nI_eq (by omega) (by omega)).mp z) q)
      unfold zJput
      by_cases w : zFi (zCsp A.1 nm) cs < cs.length
      · rw [if_pos w, if_pos w]
      · rw [if_neg w, if_neg w, if_pos (by omega)]
  have main : ∀ n c, c + n = zFi (zCsp A.1 nm) cs → mW G d ad M_Mo_dropCookie 10 [some (.ref (ad 50)), some (.int (nI g)), some (.int (nI A.1.length)), some (.int (nI c)), none] [] μ1 (mPv fun μ' => rC μ' (zJput cs (A.1, nm, vl)) ∧ mFm [30] [31, 32, 33, 34] [] μ1 μ') := by
    have hle := fi_le (p := zCsp A.1 nm) (xs := cs)
    -- one look
    have look : ∀ c (hc : c < cs.length), (zCsp A.1 nm cs[c] = true → mW G d ad M_Mo_dropCookie 102 [some (.ref (ad 50)), some (.int (nI g)), some (.int (nI A.1.length)), some (.int (nI c)), none] [] μ1 (mPv fun μ' => rC μ' (zJput cs (A.1, nm, vl)) ∧ mFm [30] [31, 32, 33, 34] [] μ1 μ')) → (zCsp A.1 nm cs[c] = false → mW G d ad M_Mo_dropCookie 96 [some (.ref (ad 50)), some (.int (nI g)), some (.int (nI A.1.length)), some (.int (nI c)), none] [] μ1 (mPv fun μ' => rC μ' (zJput cs (A.1, nm, vl)) ∧ mFm [30] [31, 32, 33, 34] [] μ1 μ')) → mW G d ad M_Mo_dropCookie 10 [some (.ref (ad 50)), some (.int (nI g)), some (.int (nI A.1.length)), some (.int (nI c)), none] [] μ1 (mPv fun μ' => rC μ' (zJput cs (A.1, nm, vl)) ∧ mFm [30] [31, 32, 33, 34] [] μ1 μ') := by
      intro c hc ky kn
      have en := h.at hc
      have hck := hcw _ (List.getElem_mem hc)
      obtain ⟨l1, l2, l3⟩ := hck.le
      refine sMo_dropCookie_10 (fun z => absurd (show nI cs.length ≤ nI c by rw [← h.1]; exact z) (nI_ge (by omega) (by omega))) (fun _ => ?_)
      have f1 : ¬ cs[c].1 = A.1 → zCsp A.1 nm cs[c] = false := fun w => by unfold zCsp; rw [beq_eq_false_iff_ne.mpr w]; rfl
      have f2 : ¬ cs[c].2.1 = nm → zCsp A.1 nm cs[c] = false := fun w => by unfold zCsp; rw [beq_eq_false_iff_ne.mpr w, Bool.and_false]
      refine sMo_dropCookie_18 (i1 := c) rfl (by rw [ml_32]; omega) (fun z => kn (f1 (fun w => z (by rw [en.1, w])))) (fun z => ?_)
      rw [en.1] at z
      have hlen := (nI_eq (by omega) (by omega)).mp z
      refine sMo_dropCookie_28 (by omega) (Nat.le_of_ble_eq_true rfl) (by rw [pk_mul, ← hlen]; exact mc_same hC mk_31 mk_6 en.2.2.2.1 (b := 602) hsite (zNm_lo hck.1) (zNm_lo hw.1) hlen (by rw [ml_31]; omega) (by rw [ml_6]; omega)) ?_
      rintro r μ2 ⟨rfl, rfl⟩
      by_cases q : cs[c].1 = A.1
      · rw [beq_iff_eq.mpr q]
        refine sMo_dropCookie_47 (fun z => absurd z (by decide)) (fun _ => ?_)
        refine sMo_dropCookie_50 (i1 := c) rfl (by rw [ml_33]; omega) (i2 := g) rfl (by rw [ml_21]; omega) (fun z => kn (f2 (fun w => z (by rw [en.2.1, h21, w])))) (fun z => ?_)
        rw [en.2.1, h21] at z
        have hlen2 := (nI_eq (by omega) (by omega)).mp z
        refine sMo_dropCookie_65 (i1 := g) rfl (by rw [ml_21]; omega) (by omega) (Nat.le_of_ble_eq_true rfl) (by rw [pk_mul, pk_mul, nI_add, h21, ← hlen2]; exact mc_same hC mk_31 mk_20 en.2.2.2.2.1 hn (zNm_lo hck.2.1) (zNm_lo hnm) hlen2 (by rw [ml_31]; omega) (by rw [ml_20]; omega)) ?_
        rintro r μ3 ⟨rfl, rfl⟩
        by_cases q2 : cs[c].2.1 = nm
        · rw [beq_iff_eq.mpr q2]
          exact sMo_dropCookie_93 (fun _ => ky (by unfold zCsp; rw [beq_iff_eq.mpr q, beq_iff_eq.mpr q2]; rfl)) (fun z => absurd z (by decide))
        · rw [beq_eq_false_iff_ne.mpr q2]
          exact sMo_dropCookie_93 (fun z => absurd (by decide) z) (fun _ => kn (f2 q2))
      · rw [beq_eq_false_iff_ne.mpr q]
        exact sMo_dropCookie_47 (fun _ => kn (f1 q)) (fun z => absurd (by decide) z)
    intro n
    induction n with
    | zero =>
      intro c hc
      rw [Nat.add_zero] at hc
      subst hc
      by_cases q : zFi (zCsp A.1 nm) cs < cs.length
      · exact look _ q (fun _ => aft) (fun z => by rw [fi_at q] at z; cases z)
      · exact sMo_dropCookie_10 (fun _ => aft) (fun z => absurd (show μ1.1 30 ≤ nI (zFi (zCsp A.1 nm) cs) by rw [h.1]; exact nI_le (by omega) (by omega)) z)
    | succ n ih =>
      intro c hc
      have hcl : c < cs.length := (by omega)
      refine look c hcl (fun z => ?_) (fun _ => ?_)
      · rw [fi_no (p := zCsp A.1 nm) hcl (by omega)] at z; cases z
      · refine sMo_dropCookie_96 ?_
        rw [nI_add]
        exact ih (c + 1) (by omega)
  exact main (zFi (zCsp A.1 nm) cs) 0 (by omega)
end MU
