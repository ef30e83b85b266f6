/-! The desk in the model's memory. -/
def rT (μ : zMm) (t : List Nat) : Prop := μ.1 1 = nI t.length ∧ mV (μ.2 0) 0 t ∧ t.length ≤ 2000 ∧ ∀ c ∈ t, c < 256
def rO (μ : zMm) (o : List Nat) : Prop := μ.1 5 = nI o.length ∧ mN (μ.2 4) 0 o ∧ zLo o ∧ o.length ≤ 400
def mPz (μ : zMm) (r : Nat) (p : List Nat) : Prop := mPw μ r p ∧ mMk μ r []
/-- what an ANSWER gives: its rows r and q, its place i -/
def mSv (μ : zMm) (i r q : Nat) (α : zAn) : Prop := mPw μ r (zPl α.1) ∧ μ.2 18 i = nI α.2.2.2.2.2.length ∧ mN (μ.2 17) (i * 1500) α.2.2.2.2.2 ∧ μ.2 23 i = zB1 α.2.2.2.1.isSome ∧ (∀ b, α.2.2.2.1 = some b → mPz μ q (zPl b)) ∧ μ.2 24 i = zB1 α.2.2.2.2.1
def mAx (μ : zMm) (i : Nat) (α : zAn) : Prop := (α.2.1 = 0 → μ.2 19 i ≤ 0) ∧ (α.2.1 ≠ 0 → μ.2 19 i = nI α.2.1) ∧ μ.2 21 i = nI α.2.2.1.1.length ∧ (α.2.2.1.1 ≠ [] → μ.2 22 i = nI α.2.2.1.2.length ∧ mN (μ.2 20) (16 * i) α.2.2.1.1 ∧ mN (μ.2 20) (16 * i + 8) α.2.2.1.2)
def rA (μ : zMm) (as : List zAn) : Prop := μ.1 16 = nI as.length ∧ ∀ i (h : i < as.length), mSv μ i (6 + i) (46 + i) as[i] ∧ mAx μ i as[i]
def rC (μ : zMm) (cs : List zCk) : Prop := μ.1 30 = nI cs.length ∧ ∀ c (h : c < cs.length), μ.2 32 c = nI cs[c].1.length ∧ μ.2 33 c = nI cs[c].2.1.length ∧ μ.2 34 c = nI cs[c].2.2.length ∧ mN (μ.2 31) (24 * c) cs[c].1 ∧ mN (μ.2 31) (24 * c + 8) cs[c].2.1 ∧ mN (μ.2 31) (24 * c + 16) cs[c].2.2
/-- one that is KEPT: its place, when -/
def mSl (μ : zMm) (s : Nat) (k : zKe) (w : Nat) : Prop := mSv μ (12 + s) (18 + s) (58 + s) k.1 ∧ μ.2 28 s = nI k.2 ∧ μ.2 29 s = nI w
/-- what is KEPT, in order: each with its place and when -/
def rK (μ : zMm) (n : Nat) (ks : List zKe) : Prop := ∃ (L : List (Nat × Nat × zKe)) (kc : Nat), L.map (fun e => e.2.2) = ks ∧ μ.1 26 = nI ks.length ∧ μ.1 27 = nI kc ∧ kc ≤ n ∧ L.Pairwise (fun a b => a.1 ≠ b.1 ∧ a.2.1 < b.2.1) ∧ (∀ e ∈ L, e.1 < ks.length ∧ e.2.1 < kc ∧ mSl μ e.1 e.2.2 e.2.1) ∧ ∀ s, s < ks.length → ∃ e ∈ L, e.1 = s
def rQ (μ : zMm) (Q : zRR) : Prop := μ.1 35 = nI Q.1 ∧ (Q.1 = 0 ↔ Q.2.1 = none) ∧ (∀ b, Q.2.1 = some b → mPz μ 2 (zPl b)) ∧ μ.1 37 = nI Q.2.2.length ∧ mN (μ.2 36) 0 Q.2.2 ∧ zLo Q.2.2 ∧ Q.2.2.length ≤ 360
def rM (μ : zMm) (C : zCC) : Prop := μ.1 48 = nI C.1.2.2.2.2.2.length ∧ mN (μ.2 47) 0 C.1.2.2.2.2.2 ∧ μ.1 49 = zB1 C.1.2.2.2.2.1 ∧ μ.1 50 = zB1 C.2.1.isSome ∧ (∀ b, C.2.1 = some b → mPw μ 26 (zPl b) ∧ mMk μ 26 (C.2.2.1.drop 1) ∧ μ.1 45 = nI C.2.2.2.1 ∧ μ.1 46 = zB1 C.2.2.2.2) ∧ (C.2.1 = none → C.2.2.2.1 = 0 ∧ C.2.2.2.2 = false)
def mRel (μ : zMm) (T : zTT) (D : zDD) (Q : zRR) (C : zCC) : Prop := rT μ T.1 ∧ rO μ T.2.1 ∧ mRw μ 1 T.2.2 ∧ mPw μ 5 (zPl zHome) ∧ rA μ D.1 ∧ rC μ D.2.1 ∧ rK μ Q.1 D.2.2.1 ∧ μ.1 25 = nI D.2.2.2 ∧ rQ μ Q ∧ rM μ C
section MR
variable {I Ar Rw : List Nat} {μ μ' : zMm}
theorem mRw.fm {r : Nat} {A : zA} (h : mRw μ r A) (f : mFm I Ar Rw μ μ') (hr : r ∉ Rw) : mRw μ' r A := ⟨h.1.ra (f.2.2 r hr), h.2.ra (f.2.2 r hr)⟩
theorem mPw.fm {r : Nat} {p : List Nat} (h : mPw μ r p) (f : mFm I Ar Rw μ μ') (hr : r ∉ Rw) : mPw μ' r p := h.ra (f.2.2 r hr)
theorem mPz.fm {r : Nat} {p : List Nat} (h : mPz μ r p) (f : mFm I Ar Rw μ μ') (hr : r ∉ Rw) : mPz μ' r p := ⟨h.1.ra (f.2.2 r hr), h.2.ra (f.2.2 r hr)⟩
theorem mFm.ar (f : mFm I Ar Rw μ μ') (k : Nat) (h : k ∉ Ar) (h6 : k ≠ 6) (h7 : k ≠ 7) (h8 : k ≠ 8) : μ'.2 k = μ.2 k := f.2.1 k h h6 h7 h8
theorem rT.fm {t : List Nat} (h : rT μ t) (f : mFm I Ar Rw μ μ') (h1 : 1 ∉ I) (h0 : 0 ∉ Ar) : rT μ' t := ⟨(f.1 1 h1).trans h.1, by rw [f.ar 0 h0 (by decide) (by decide) (by decide)]; exact h.2.1, h.2.2⟩
theorem rO.fm {t : List Nat} (h : rO μ t) (f : mFm I Ar Rw μ μ') (h1 : 5 ∉ I) (h0 : 4 ∉ Ar) : rO μ' t := ⟨(f.1 5 h1).trans h.1, by rw [f.ar 4 h0 (by decide) (by decide) (by decide)]; exact h.2.1, h.2.2⟩
theorem mSv.fm {i r q : Nat} {α : zAn} (h : mSv μ i r q α) (f : mFm I Ar Rw μ μ') (hr : r ∉ Rw) (hq : q ∉ Rw) (h17 : 17 ∉ Ar) (h18 : 18 ∉ Ar) (h23 : 23 ∉ Ar) (h24 : 24 ∉ Ar) : mSv μ' i r q α := by
  obtain ⟨a, b, c, e, g, k⟩ := h
  refine ⟨a.fm f hr, ?_, ?_, ?_, fun b' hb => (g b' hb).fm f hq, ?_⟩
  · rw [f.ar 18 h18 (by decide) (by decide) (by decide)]; exact b
  · rw [f.ar 17 h17 (by decide) (by decide) (by decide)]; exact c
  · rw [f.ar 23 h23 (by decide) (by decide) (by decide)]; exact e
  · rw [f.ar 24 h24 (by decide) (by decide) (by decide)]; exact k
theorem mAx.fm {i : Nat} {α : zAn} (h : mAx μ i α) (f : mFm I Ar Rw μ μ') (h19 : 19 ∉ Ar) (h20 : 20 ∉ Ar) (h21 : 21 ∉ Ar) (h22 : 22 ∉ Ar) : mAx μ' i α := by
  unfold mAx
  rw [f.ar 19 h19 (by decide) (by decide) (by decide), f.ar 20 h20 (by decide) (by decide) (by decide), f.ar 21 h21 (by decide) (by decide) (by decide), f.ar 22 h22 (by decide) (by decide) (by decide)]
  exact h
theorem rA.fm {as : List zAn} (h : rA μ as) (f : mFm I Ar Rw μ μ') (hl : as.length ≤ 12) (h16 : 16 ∉ I) (ha : ∀ k, 17 ≤ k → k ≤ 24 → k ∉ Ar) (hr : ∀ r, (6 ≤ r ∧ r < 18) ∨ (46 ≤ r ∧ r < 58) → r ∉ Rw) : rA μ' as := by
  refine ⟨(f.1 16 h16).trans h.1, fun i hi => ?_⟩
  obtain ⟨a, b⟩ := h.2 i hi
  exact ⟨a.fm f (hr _ (by omega)) (hr _ (by omega)) (ha 17 (by omega) (by omega)) (ha 18 (by omega) (by omega)) (ha 23 (by omega) (by omega)) (ha 24 (by omega) (by omega)), b.fm f (ha 19 (by omega) (by omega)) (ha 20 (by omega) (by omega)) (ha 21 (by omega) (by omega)) (ha 22 (by omega) (by omega))⟩
theorem rC.fm {cs : List zCk} (h : rC μ cs) (f : mFm I Ar Rw μ μ') (h30 : 30 ∉ I) (ha : ∀ k, 31 ≤ k → k ≤ 34 → k ∉ Ar) : rC μ' cs := by
  unfold rC
  rw [f.1 30 h30, f.ar 31 (ha 31 (by omega) (by omega)) (by decide) (by decide) (by decide), f.ar 32 (ha 32 (by omega) (by omega)) (by decide) (by decide) (by decide), f.ar 33 (ha 33 (by omega) (by omega)) (by decide) (by decide) (by decide), f.ar 34 (ha 34 (by omega) (by omega)) (by decide) (by decide) (by decide)]
  exact h
theorem rK.fm {n : Nat} {ks : List zKe} (h : rK μ n ks) (f : mFm I Ar Rw μ μ') (hl : ks.length ≤ 8) (h26 : 26 ∉ I) (h27 : 27 ∉ I) (h17 : 17 ∉ Ar) (h18 : 18 ∉ Ar) (h23 : 23 ∉ Ar) (h24 : 24 ∉ Ar) (h28 : 28 ∉ Ar) (h29 : 29 ∉ Ar) (hr : ∀ r, (18 ≤ r ∧ r < 26) ∨ (58 ≤ r ∧ r < 66) → r ∉ Rw) : rK μ' n ks := by
  obtain ⟨L, kc, a1, a2, a3, a4, a5, a6, a7⟩ := h
  refine ⟨L, kc, a1, (f.1 26 h26).trans a2, (f.1 27 h27).trans a3, a4, a5, fun e he => ?_, a7⟩
  obtain ⟨b1, b2, b3, b4, b5⟩ := a6 e he
  refine ⟨b1, b2, b3.fm f (hr _ (by omega)) (hr _ (by omega)) h17 h18 h23 h24, ?_, ?_⟩
  · rw [f.ar 28 h28 (by decide) (by decide) (by decide)]; exact b4
  · rw [f.ar 29 h29 (by decide) (by decide) (by decide)]; exact b5
theorem rQ.fm {Q : zRR} (h : rQ μ Q) (f : mFm I Ar Rw μ μ') (h35 : 35 ∉ I) (h37 : 37 ∉ I) (h36 : 36 ∉ Ar) (h2 : 2 ∉ Rw) : rQ μ' Q := by
  obtain ⟨a, b, c, e, g, k⟩ := h
  exact ⟨(f.1 35 h35).trans a, b, fun b' hb => (c b' hb).fm f h2, (f.1 37 h37).trans e, by rw [f.ar 36 h36 (by decide) (by decide) (by decide)]; exact g, k⟩
theorem rM.fm {C : zCC} (h : rM μ C) (f : mFm I Ar Rw μ μ') (hi : ∀ k, 45 ≤ k → k ≤ 50 → k ∉ I) (h47 : 47 ∉ Ar) (h26 : 26 ∉ Rw) : rM μ' C := by
  obtain ⟨a, b, c, e, g, k⟩ := h
  refine ⟨(f.1 48 (hi 48 (by omega) (by omega))).trans a, by rw [f.ar 47 h47 (by decide) (by decide) (by decide)]; exact b, (f.1 49 (hi 49 (by omega) (by omega))).trans c, (f.1 50 (hi 50 (by omega) (by omega))).trans e, fun b' hb => ?_, k⟩
  obtain ⟨g1, g2, g3, g4⟩ := g b' hb
  exact ⟨g1.fm f h26, g2.ra (f.2.2 26 h26), (f.1 45 (hi 45 (by omega) (by omega))).trans g3, (f.1 46 (hi 46 (by omega) (by omega))).trans g4⟩
end MR
section MS
variable {G : zG} {d : Nat} {ad : Nat → Nat} {μ : zMm} {c k : Nat} {t o p m : List Nat} {T : zTT} {D : zDD} {Q : zRR} {C : zCC}
theorem mc_wrong (hC : zCs G) {x : Int32} : mC G d ad M_Mo_wrong [.int x] μ (mRd μ (-1000 - x)) := by
  refine mC_in [some (.int x)] pn_Mo_wrong hC.1 rfl (Nat.le_of_ble_eq_true rfl) rfl ?_
  exact sMo_wrong_0 ⟨_, rfl, rfl, rfl⟩
theorem mc_say (hC : zCs G) (h : rO μ o) (hl : o.length < 400) (hc : c < 128) : mC G d ad M_Mo_say [.ref (ad 50), .int (nI c)] μ (mPv fun μ' => rO μ' (o ++ [c]) ∧ mFm [5] [4] [] μ μ') := by
  refine mC_in [some (.ref (ad 50)), some (.int (nI c))] pn_Mo_say hC.1 rfl (Nat.le_of_ble_eq_true rfl) rfl ?_
  refine sMo_say_0 (fun z => absurd (show nI 8000 ≤ nI o.length by rw [← h.1]; exact z) (nI_ge (by omega) (by omega))) (fun _ => ?_)
  refine sMo_say_10 (i := o.length) h.1 (by rw [ml_4]; omega) ?_
  refine sMo_say_21 ?_
  rw [n8 hc, n8 hc]
  refine sMo_say_31 ⟨rfl, ⟨?_, ?_, zLo_app h.2.2.1 (zLo_1 hc), by rw [List.length_append]; simp only [List.length_cons, List.length_nil]; omega⟩, (mFm.rf.pa (by decide) (by decide) (by decide) (by decide)).pi (by decide)⟩
  · dsimp only
    rw [pk_us, h.1, nI_add, List.length_append]; rfl
  · dsimp only
    rw [updA_s, mN_app]
    refine ⟨fun j hj => ?_, fun j hj => ?_⟩
    · rw [pk_un (by omega)]; exact h.2.1 j hj
    · simp only [List.length_cons, List.length_nil] at hj
      rw [show j = 0 by omega, Nat.add_zero, Nat.zero_add, pk_us]; rfl
theorem mc_sayAll (hC : zCs G) (hd : 1 ≤ d) {b : Nat} (hk : mB k) (hk4 : k ≠ 4) (hp : mN (μ.2 k) b p) (hpl : zLo p) (hb : b + p.length ≤ mLn k) (h : rO μ o) (hl : o.length + p.length ≤ 400) : mC G d ad M_Mo_sayAll [.ref (ad 50), .ref (ad k), .int (nI b), .int (nI p.length)] μ (mPv fun μ' => rO μ' (o ++ p) ∧ mFm [5] [4] [] μ μ') := by
  have hmk := mLn_le k
  refine mC_in [some (.ref (ad 50)), some (.ref (ad k)), some (.int (nI b)), some (.int (nI p.length)), none] pn_Mo_sayAll hC.1 rfl (Nat.le_of_ble_eq_true rfl) rfl ?_
  refine sMo_sayAll_0 ?_
  have main : ∀ n j (μ1 : zMm), j + n = p.length → mFm [5] [4] [] μ μ1 → rO μ1 (o ++ p.take j) → mW G d ad M_Mo_sayAll 3 [some (.ref (ad 50)), some (.ref (ad k)), some (.int (nI b)), some (.int (nI p.length)), some (.int (nI j))] [] μ1 (mPv fun μ' => rO μ' (o ++ p) ∧ mFm [5] [4] [] μ μ') := by
    intro n
    induction n with
    | zero =>
      intro j μ1 hj hF hO
      rw [List.take_of_length_le (by omega)] at hO
      exact sMo_sayAll_3 (fun _ => sMo_sayAll_25 ⟨rfl, hO, hF⟩) (fun z => absurd (nI_le (by omega) (by omega)) z)
    | succ n ih =>
      intro j μ1 hj hF hO
      refine sMo_sayAll_3 (fun z => absurd z (nI_ge (by omega) (by omega))) (fun _ => ?_)
      have ek : μ1.2 k (b + j) = nI (p.getD j 0) := by
        obtain ⟨k1, k2, k3⟩ := hk
        by_cases h6 : k = 6
        · subst h6
          have := (hF.2.2 ((b + j) / 150) List.not_mem_nil).2.2 ((b + j) % 150) (Nat.mod_lt _ (by decide))
          rw [show (b + j) / 150 * 150 + (b + j) % 150 = b + j by omega] at this
          rw [this]
          exact hp j (by omega)
        · have h7 : k ≠ 7 := fun z => by subst z; exact absurd k3 (by decide)
          have h8 : k ≠ 8 := fun z => by subst z; exact absurd k3 (by decide)
          rw [hF.ar k (fun z => hk4 (List.mem_singleton.mp z)) h6 h7 h8]
          exact hp j (by omega)
      refine sMo_sayAll_9 hk (i1 := b + j) (nI_add _ _) (by omega) (by omega) (Nat.le_of_ble_eq_true rfl) (by rw [ek]; exact mc_say hC hO (by rw [List.length_append, List.length_take]; omega) (hpl.at j)) ?_
      rintro μ2 ⟨g1, g2⟩
      refine sMo_sayAll_19 ?_
      rw [nI_add]
      refine ih (j + 1) μ2 (by omega) (hF.tr g2) ?_
      rw [take_s (by omega), ← List.append_assoc]
      exact g1
  exact main p.length 0 μ (by omega) mFm.rf (by rw [List.take_zero, List.append_nil]; exact h)
theorem mc_sayRow (hC : zCs G) (hd : 2 ≤ d) {r : Nat} (hr : r < 66) (h1 : mPw μ r p) (h2 : mMk μ r m) (h : rO μ []) : mC G d ad M_Mo_sayRow [.ref (ad 50), .int (nI r)] μ (mPv fun μ' => rO μ' (p ++ (if m = [] then [] else 35 :: m)) ∧ mFm [5] [4] [] μ μ') := by
  have l1 := h1.2.2.1
  have l2 := h2.2.2.1
  refine mC_in [some (.ref (ad 50)), some (.int (nI r))] pn_Mo_sayRow hC.1 rfl (Nat.le_of_ble_eq_true rfl) rfl ?_
  refine sMo_sayRow_0 rfl (by rw [ml_7]; omega) (by omega) (Nat.le_of_ble_eq_true rfl) (by rw [pk_mul, h1.1]; exact mc_sayAll hC (by omega) mk_6 (by decide) h1.2.1 h1.2.2.2 (by rw [ml_6]; omega) h (by simp only [List.length_nil]; omega)) ?_
  rintro μ1 ⟨g1, g2⟩
  rw [List.nil_append] at g1
  have h2' := h2.ra (g2.2.2 r List.not_mem_nil)
  by_cases hm : m = []
  · rw [if_pos hm, List.append_nil]
    exact sMo_sayRow_19 rfl (by rw [ml_8]; omega) (fun _ => sMo_sayRow_57 ⟨rfl, g1, g2⟩) (fun z => absurd (show μ1.2 8 r ≤ 0 by rw [h2'.1, hm]; decide) z)
  · rw [if_neg hm]
    have hpos : 1 ≤ m.length := List.length_pos_iff.mpr hm
    refine sMo_sayRow_19 rfl (by rw [ml_8]; omega) (fun z => absurd (show nI m.length ≤ 0 by rw [← h2'.1]; exact z) (nI_nle (by omega) (by omega))) (fun _ => ?_)
    refine sMo_sayRow_28 (by omega) (Nat.le_of_ble_eq_true rfl) (mc_say hC g1 (by omega) (by decide)) ?_
    rintro μ2 ⟨g3, g4⟩
    have h2'' := h2'.ra (g4.2.2 r List.not_mem_nil)
    refine sMo_sayRow_34 rfl (by rw [ml_8]; omega) (by omega) (Nat.le_of_ble_eq_true rfl) (by rw [pk_mul, nI_add, h2''.1]; exact mc_sayAll hC (by omega) mk_6 (by decide) h2''.2.1 h2''.2.2.2 (by rw [ml_6]; omega) g3 (by rw [List.length_append]; simp only [List.length_cons, List.length_nil]; omega)) ?_
    rintro μ3 ⟨g5, g6⟩
    have e : p ++ [35] ++ m = p ++ 35 :: m := by rw [List.append_assoc]; rfl
    rw [e] at g5
    exact sMo_sayRow_57 ⟨rfl, g5, (g2.tr g4).tr g6⟩
theorem zOkc_sb {c : Nat} (h : c < 256) : (sb_b c = nI 10 ↔ c = 10) ∧ (¬ sb_b c < nI 32 ∧ sb_b c ≤ nI 126 ↔ 32 ≤ c ∧ c ≤ 126) := by
  revert c
  have : ∀ c, c < 256 → (sb_b c = nI 10 ↔ c = 10) ∧ (¬ sb_b c < nI 32 ∧ sb_b c ≤ nI 126 ↔ 32 ≤ c ∧ c ≤ 126) := by decide +kernel
  exact fun {c} h => this c h
/-- THE TAPE's text is taken: text and tn hold it, the tape is empty -/
theorem mc_take (hC : zCs G) (h : rT μ t) : mC G d ad M_Mo_take [.ref (ad 50)] μ (mPi fun r μ' => r = (if zTw zOkc t < t.length then nI (zTw zOkc t) else -1) ∧ rT μ' [] ∧ μ'.1 3 = nI t.length ∧ mV (μ'.2 2) 0 t ∧ mFm [1, 3] [2] [] μ μ') := by
  obtain ⟨h1, h2, h3, h4⟩ := h
  have htw := tw_le zOkc t
  refine mC_in [some (.ref (ad 50)), none, none] pn_Mo_take hC.1 rfl (Nat.le_of_ble_eq_true rfl) rfl ?_
  refine sMo_take_0 ?_
  refine sMo_take_8 ?_
  -- the copy
  have scan : ∀ n j (μ1 : zMm) (o2 : Option Value), j + n = zTw zOkc t → mFm [1, 3] [2] [] μ μ1 → μ1.1 1 = nI 0 → μ1.1 3 = nI t.length → mV (μ1.2 2) 0 t → mW G d ad M_Mo_take 43 [some (.ref (ad 50)), some (.int (nI j)), o2] [] μ1 (mPi fun r μ' => r = (if zTw zOkc t < t.length then nI (zTw zOkc t) else -1) ∧ rT μ' [] ∧ μ'.1 3 = nI t.length ∧ mV (μ'.2 2) 0 t ∧ mFm [1, 3] [2] [] μ μ') := by
    intro n
    induction n with
    | zero =>
      intro j μ1 o2 hj hF e1 e3 ev
      rw [show j = zTw zOkc t by omega]
      have hT : rT μ1 [] := ⟨e1, (fun i hi => absurd hi (Nat.not_lt_zero _)), Nat.zero_le _, (fun c hc => by cases hc)⟩
      by_cases q : zTw zOkc t < t.length
      · refine sMo_take_43 (fun z => absurd (show nI t.length ≤ nI (zTw zOkc t) by rw [← e3]; exact z) (nI_ge (by omega) (by omega))) (fun _ => ?_)
        have hb := zTx_get h4 (zTw zOkc t)
        have he := tw_end zOkc t q
        have ev' := ev (zTw zOkc t) q
        rw [Nat.zero_add] at ev'
        obtain ⟨o1, o2'⟩ := zOkc_sb hb
        have hn10 : t.getD (zTw zOkc t) 0 ≠ 10 := fun w => by rw [w] at he; exact absurd he (by decide)
        have hnr : ¬ (32 ≤ t.getD (zTw zOkc t) 0 ∧ t.getD (zTw zOkc t) 0 ≤ 126) := fun w => by rw [zOkc_iff.mpr (Or.inr w)] at he; cases he
        have ret : ∀ o2, mW G d ad M_Mo_take 76 [some (.ref (ad 50)), some (.int (nI (zTw zOkc t))), o2] [] μ1 (mPi fun r μ' => r = (if zTw zOkc t < t.length then nI (zTw zOkc t) else -1) ∧ rT μ' [] ∧ μ'.1 3 = nI t.length ∧ mV (μ'.2 2) 0 t ∧ mFm [1, 3] [2] [] μ μ') := fun o2 => sMo_take_76 ⟨_, rfl, by rw [if_pos q], hT, e3, ev, hF⟩
        refine sMo_take_51 (i1 := zTw zOkc t) rfl (by rw [ml_2]; omega) (fun z => absurd (o1.mp (by rw [← ev']; exact z)) hn10) (fun _ => ?_)
        rw [ev']
        refine sMo_take_64 (fun _ => ret _) (fun z1 => ?_)
        exact sMo_take_70 (fun z2 => absurd (o2'.mp ⟨z1, z2⟩) hnr) (fun _ => ret _)
      · refine sMo_take_43 (fun _ => ?_) (fun z => absurd (show μ1.1 3 ≤ nI (zTw zOkc t) by rw [e3]; exact nI_le (by omega) (by omega)) z)
        exact sMo_take_84 ⟨_, rfl, by rw [if_neg q], hT, e3, ev, hF⟩
    | succ n ih =>
      intro j μ1 o2 hj hF e1 e3 ev
      refine sMo_take_43 (fun z => absurd (show nI t.length ≤ nI j by rw [← e3]; exact z) (nI_ge (by omega) (by omega))) (fun _ => ?_)
      have hb := zTx_get h4 j
      have he := zOkc_iff.mp (tw_at zOkc t j (by omega))
      have ev' := ev j (by omega)
      rw [Nat.zero_add] at ev'
      obtain ⟨o1, o2'⟩ := zOkc_sb hb
      have next : ∀ o2, mW G d ad M_Mo_take 78 [some (.ref (ad 50)), some (.int (nI j)), o2] [] μ1 (mPi fun r μ' => r = (if zTw zOkc t < t.length then nI (zTw zOkc t) else -1) ∧ rT μ' [] ∧ μ'.1 3 = nI t.length ∧ mV (μ'.2 2) 0 t ∧ mFm [1, 3] [2] [] μ μ') := fun o2 => by
        refine sMo_take_78 ?_
        rw [nI_add]
        exact ih (j + 1) μ1 o2 (by omega) hF e1 e3 ev
      refine sMo_take_51 (i1 := j) rfl (by rw [ml_2]; omega) (fun _ => next _) (fun z => ?_)
      rw [ev'] at z ⊢
      have hr : 32 ≤ t.getD j 0 ∧ t.getD j 0 ≤ 126 := he.resolve_left (fun w => z (o1.mpr w))
      obtain ⟨r1, r2⟩ := o2'.mpr hr
      exact sMo_take_64 (fun w => absurd w r1) (fun _ => sMo_take_70 (fun _ => next _) (fun w => absurd r2 w))
  have copy : ∀ n j (μ1 : zMm), j + n = t.length → mFm [1, 3] [2] [] μ μ1 → μ1.1 3 = nI t.length → mV (μ1.2 2) 0 (t.take j) → mW G d ad M_Mo_take 10 [some (.ref (ad 50)), some (.int (nI j)), none] [] μ1 (mPi fun r μ' => r = (if zTw zOkc t < t.length then nI (zTw zOkc t) else -1) ∧ rT μ' [] ∧ μ'.1 3 = nI t.length ∧ mV (μ'.2 2) 0 t ∧ mFm [1, 3] [2] [] μ μ') := by
    intro n
    induction n with
    | zero =>
      intro j μ1 hj hF e3 ev
      rw [List.take_of_length_le (by omega)] at ev
      refine sMo_take_10 (fun _ => ?_) (fun z => absurd (show μ1.1 3 ≤ nI j by rw [e3]; exact nI_le (by omega) (by omega)) z)
      refine sMo_take_36 ?_
      refine sMo_take_41 ?_
      refine scan (zTw zOkc t) 0 _ _ (by omega) (hF.pi (by decide)) pu_s ?_ ev
      dsimp only
      rw [pk_un (by decide)]; exact e3
    | succ n ih =>
      intro j μ1 hj hF e3 ev
      refine sMo_take_10 (fun z => absurd (show nI t.length ≤ nI j by rw [← e3]; exact z) (nI_ge (by omega) (by omega))) (fun _ => ?_)
      have e0 : μ1.2 0 j = sb_b (t.getD j 0) := by
        rw [hF.ar 0 (by decide) (by decide) (by decide) (by decide)]
        have := h2 j (by omega)
        rw [Nat.zero_add] at this
        exact this
      refine sMo_take_18 (i1 := j) rfl (by rw [ml_0]; omega) (i := j) rfl (by rw [ml_2]; omega) ?_
      refine sMo_take_30 ?_
      rw [nI_add, e0]
      refine ih (j + 1) _ (by omega) (hF.pa (by decide) (by decide) (by decide) (by decide)) e3 ?_
      dsimp only
      intro i hi
      rw [List.length_take] at hi
      rw [updA_s, Nat.zero_add]
      by_cases q : i = j
      · rw [q, pk_us, getD_take (by omega)]
        exact z8 _
      · rw [pk_un q, getD_take (by omega)]
        have := ev i (by rw [List.length_take]; omega)
        rw [Nat.zero_add, getD_take (by omega)] at this
        exact this
  refine copy t.length 0 _ (by omega) (mFm.rf.pi (by decide)) ?_ (fun i hi => absurd hi (by simp))
  dsimp only
  rw [pk_us]; exact h1
end MS
