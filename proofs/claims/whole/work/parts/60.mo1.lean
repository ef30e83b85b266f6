/-! The model's methods over its memory. -/
def mN (f : Nat → Int32) (off : Nat) (t : List Nat) : Prop := ∀ j, j < t.length → f (off + j) = nI (t.getD j 0)
def mV (f : Nat → Int32) (off : Nat) (t : List Nat) : Prop := ∀ j, j < t.length → f (off + j) = sb_b (t.getD j 0)
def zLo (t : List Nat) : Prop := ∀ c ∈ t, c < 128
theorem zLo.at {t : List Nat} (h : zLo t) (i : Nat) : t.getD i 0 < 128 := by
  by_cases hi : i < t.length
  · exact h _ (getD_mem hi)
  · rw [List.getD_eq_getElem?_getD, List.getElem?_eq_none (by omega)]
    decide
theorem mN.of {f : Nat → Int32} {off : Nat} {t : List Nat} (h : mV f off t) (hl : zLo t) : mN f off t := fun j hj => by rw [h j hj, sb_lo _ (hl.at j)]
theorem n8 {c : Nat} (h : c < 128) : (nI c).toInt8.toInt32 = nI c := sb_lo c h
theorem mN.get {f : Nat → Int32} {off : Nat} {t : List Nat} (h : mN f off t) {i : Nat} (hi : off ≤ i) (hi2 : i < off + t.length) : f i = nI (t.getD (i - off) 0) := by
  have := h (i - off) (by omega)
  rw [show off + (i - off) = i by omega] at this
  exact this
def mRa (μ μ' : zMm) (r : Nat) : Prop := μ'.2 7 r = μ.2 7 r ∧ μ'.2 8 r = μ.2 8 r ∧ ∀ j, j < 150 → μ'.2 6 (r * 150 + j) = μ.2 6 (r * 150 + j)
/-- only these ints, arrays, rows have changed -/
def mFm (I Ar Rw : List Nat) (μ μ' : zMm) : Prop := (∀ k, k ∉ I → μ'.1 k = μ.1 k) ∧ (∀ k, k ∉ Ar → k ≠ 6 → k ≠ 7 → k ≠ 8 → μ'.2 k = μ.2 k) ∧ ∀ r, r ∉ Rw → mRa μ μ' r
theorem mFm.rf {I Ar Rw : List Nat} {μ : zMm} : mFm I Ar Rw μ μ := ⟨fun _ _ => rfl, fun _ _ _ _ _ => rfl, fun _ _ => ⟨rfl, rfl, fun _ _ => rfl⟩⟩
theorem mFm.tr {I Ar Rw : List Nat} {μ μ1 μ2 : zMm} (h : mFm I Ar Rw μ μ1) (g : mFm I Ar Rw μ1 μ2) : mFm I Ar Rw μ μ2 := ⟨fun k hk => (g.1 k hk).trans (h.1 k hk), fun k a b c e => (g.2.1 k a b c e).trans (h.2.1 k a b c e), fun r hr => ⟨(g.2.2 r hr).1.trans (h.2.2 r hr).1, (g.2.2 r hr).2.1.trans (h.2.2 r hr).2.1, fun j hj => ((g.2.2 r hr).2.2 j hj).trans ((h.2.2 r hr).2.2 j hj)⟩⟩
theorem mFm.mono {I Ar Rw I2 Ar2 Rw2 : List Nat} {μ μ1 : zMm} (h : mFm I Ar Rw μ μ1) (h1 : ∀ k ∈ I, k ∈ I2) (h2 : ∀ k ∈ Ar, k ∈ Ar2) (h3 : ∀ k ∈ Rw, k ∈ Rw2) : mFm I2 Ar2 Rw2 μ μ1 := ⟨fun k hk => h.1 k (fun z => hk (h1 k z)), fun k a b c e => h.2.1 k (fun z => a (h2 k z)) b c e, fun r hr => h.2.2 r (fun z => hr (h3 r z))⟩
theorem mFm.pi {I Ar Rw : List Nat} {μ μ1 : zMm} (h : mFm I Ar Rw μ μ1) {k : Nat} (hk : k ∈ I) {v : Int32} : mFm I Ar Rw μ (upd μ1.1 k v, μ1.2) := by
  refine ⟨fun j hj => ?_, h.2.1, h.2.2⟩
  show upd μ1.1 k v j = _
  rw [pk_un (fun e => hj (by rw [e]; exact hk))]
  exact h.1 j hj
theorem mFm.pa {I Ar Rw : List Nat} {μ μ1 : zMm} (h : mFm I Ar Rw μ μ1) {k i : Nat} (hk : k ∈ Ar) (h6 : k ≠ 6) (h7 : k ≠ 7) (h8 : k ≠ 8) {v : Int32} : mFm I Ar Rw μ (μ1.1, updA μ1.2 k i v) := by
  refine ⟨h.1, fun j a b c e => ?_, fun r hr => ?_⟩
  · show updA μ1.2 k i v j = _
    rw [updA_n (fun z => a (by rw [z]; exact hk))]
    exact h.2.1 j a b c e
  · obtain ⟨a, b, c⟩ := h.2.2 r hr
    refine ⟨?_, ?_, fun j hj => ?_⟩
    · show updA μ1.2 k i v 7 r = _
      rw [updA_n (Ne.symm h7)]; exact a
    · show updA μ1.2 k i v 8 r = _
      rw [updA_n (Ne.symm h8)]; exact b
    · show updA μ1.2 k i v 6 _ = _
      rw [updA_n (Ne.symm h6)]; exact c j hj
theorem mFm.p7 {I Ar Rw : List Nat} {μ μ1 : zMm} (h : mFm I Ar Rw μ μ1) {i : Nat} (hk : i ∈ Rw) {v : Int32} : mFm I Ar Rw μ (μ1.1, updA μ1.2 7 i v) := by
  refine ⟨h.1, fun j a b c e => ?_, fun r hr => ?_⟩
  · show updA μ1.2 7 i v j = _
    rw [updA_n c]
    exact h.2.1 j a b c e
  · obtain ⟨a, b, c⟩ := h.2.2 r hr
    refine ⟨?_, ?_, fun j hj => ?_⟩
    · show updA μ1.2 7 i v 7 r = _
      rw [updA_s, pk_un (fun e => hr (by rw [e]; exact hk))]; exact a
    · show updA μ1.2 7 i v 8 r = _
      rw [updA_n (by decide)]; exact b
    · show updA μ1.2 7 i v 6 _ = _
      rw [updA_n (by decide)]; exact c j hj
theorem mFm.p8 {I Ar Rw : List Nat} {μ μ1 : zMm} (h : mFm I Ar Rw μ μ1) {i : Nat} (hk : i ∈ Rw) {v : Int32} : mFm I Ar Rw μ (μ1.1, updA μ1.2 8 i v) := by
  refine ⟨h.1, fun j a b c e => ?_, fun r hr => ?_⟩
  · show updA μ1.2 8 i v j = _
    rw [updA_n e]
    exact h.2.1 j a b c e
  · obtain ⟨a, b, c⟩ := h.2.2 r hr
    refine ⟨?_, ?_, fun j hj => ?_⟩
    · show updA μ1.2 8 i v 7 r = _
      rw [updA_n (by decide)]; exact a
    · show updA μ1.2 8 i v 8 r = _
      rw [updA_s, pk_un (fun e => hr (by rw [e]; exact hk))]; exact b
    · show updA μ1.2 8 i v 6 _ = _
      rw [updA_n (by decide)]; exact c j hj
theorem mFm.p6 {I Ar Rw : List Nat} {μ μ1 : zMm} (h : mFm I Ar Rw μ μ1) {r0 j0 i : Nat} (hk : r0 ∈ Rw) (hi : i = r0 * 150 + j0) (hj0 : j0 < 150) {v : Int32} : mFm I Ar Rw μ (μ1.1, updA μ1.2 6 i v) := by
  refine ⟨h.1, fun j a b c e => ?_, fun r hr => ?_⟩
  · show updA μ1.2 6 i v j = _
    rw [updA_n b]
    exact h.2.1 j a b c e
  · obtain ⟨a, b, c⟩ := h.2.2 r hr
    refine ⟨?_, ?_, fun j hj => ?_⟩
    · show updA μ1.2 6 i v 7 r = _
      rw [updA_n (by decide)]; exact a
    · show updA μ1.2 6 i v 8 r = _
      rw [updA_n (by decide)]; exact b
    · show updA μ1.2 6 i v 6 _ = _
      have hne : r ≠ r0 := fun e => hr (by rw [e]; exact hk)
      rw [updA_s, pk_un (by omega)]; exact c j hj
def mRd (μ : zMm) (x : Int32) : Option Value → zMm → Prop := mPi (fun r μ1 => r = x ∧ μ1 = μ)
theorem zB1_t : zB1 true = nI 1 := by decide
theorem zB1_f : zB1 false = nI 0 := by decide
theorem zB1_n (b : Bool) : (¬ zB1 b = 0) ↔ b = true := by cases b <;> decide
theorem zB1_z (b : Bool) : (zB1 b = 0) ↔ b = false := by cases b <;> decide
section MA
variable {G : zG} {d : Nat} {ad : Nat → Nat} {μ : zMm} {c : Nat}
theorem mc_small (hC : zCs G) (hc : c < 128) : mC G d ad M_Mo_isSmall [.int (nI c)] μ (mRd μ (zB1 (zSm c))) := by
  refine mC_in [some (.int (nI c))] pn_Mo_isSmall hC.1 rfl (Nat.le_of_ble_eq_true rfl) rfl ?_
  have e := zSm_iff (c := c)
  refine sMo_isSmall_0 (fun z => ?_) (fun z => ?_)
  · have := (nI_ltI (by omega) (by omega)).mp z
    refine sMo_isSmall_16 rfl ⟨_, rfl, ?_, rfl⟩
    rw [(Bool.not_eq_true (zSm c)).mp (fun w => by have := e.mp w; omega)]; decide
  · have h1 : 97 ≤ c := Nat.not_lt.mp (fun w => z (nI_lt w (by omega)))
    refine sMo_isSmall_6 (fun z => ?_) (fun z => ?_)
    · have := (nI_ltI (by omega) (by omega)).mp z
      refine sMo_isSmall_16 rfl ⟨_, rfl, ?_, rfl⟩
      rw [(Bool.not_eq_true (zSm c)).mp (fun w => by have := e.mp w; omega)]; decide
    · have h2 : c ≤ 122 := Nat.not_lt.mp (fun w => z (nI_lt w (by omega)))
      refine sMo_isSmall_12 rfl ⟨_, rfl, ?_, rfl⟩
      rw [e.mpr ⟨h1, h2⟩]; decide
theorem mc_digit (hC : zCs G) (hc : c < 128) : mC G d ad M_Mo_isDigit [.int (nI c)] μ (mRd μ (zB1 (zDg c))) := by
  refine mC_in [some (.int (nI c))] pn_Mo_isDigit hC.1 rfl (Nat.le_of_ble_eq_true rfl) rfl ?_
  have e := zDg_iff (c := c)
  refine sMo_isDigit_0 (fun z => ?_) (fun z => ?_)
  · have := (nI_ltI (by omega) (by omega)).mp z
    refine sMo_isDigit_16 rfl ⟨_, rfl, ?_, rfl⟩
    rw [(Bool.not_eq_true (zDg c)).mp (fun w => by have := e.mp w; omega)]; decide
  · have h1 : 48 ≤ c := Nat.not_lt.mp (fun w => z (nI_lt w (by omega)))
    refine sMo_isDigit_6 (fun z => ?_) (fun z => ?_)
    · have := (nI_ltI (by omega) (by omega)).mp z
      refine sMo_isDigit_16 rfl ⟨_, rfl, ?_, rfl⟩
      rw [(Bool.not_eq_true (zDg c)).mp (fun w => by have := e.mp w; omega)]; decide
    · have h2 : c ≤ 57 := Nat.not_lt.mp (fun w => z (nI_lt w (by omega)))
      refine sMo_isDigit_12 rfl ⟨_, rfl, ?_, rfl⟩
      rw [e.mpr ⟨h1, h2⟩]; decide
theorem mc_blank (hC : zCs G) (hc : c < 128) : mC G d ad M_Mo_isBlank [.int (nI c)] μ (mRd μ (zB1 (!zNb c))) := by
  refine mC_in [some (.int (nI c))] pn_Mo_isBlank hC.1 rfl (Nat.le_of_ble_eq_true rfl) rfl ?_
  refine sMo_isBlank_0 (fun z => ?_) (fun z => ?_)
  · have := (nI_eq (by omega) (by omega)).mp z
    refine sMo_isBlank_12 rfl ⟨_, rfl, ?_, rfl⟩
    rw [zNb_f.mpr (Or.inl this)]; decide
  · refine sMo_isBlank_6 (fun w => ?_) (fun w => ?_)
    · refine sMo_isBlank_16 rfl ⟨_, rfl, ?_, rfl⟩
      rw [zNb_iff.mpr ⟨fun q => z (by rw [q]), fun q => w (by rw [q])⟩]; decide
    · have := (nI_eq (by omega) (by omega)).mp w
      refine sMo_isBlank_12 rfl ⟨_, rfl, ?_, rfl⟩
      rw [zNb_f.mpr (Or.inr this)]; decide
theorem mc_segm (hC : zCs G) (hd : 1 ≤ d) (hc : c < 128) : mC G d ad M_Mo_isSegment [.int (nI c)] μ (mRd μ (zB1 (zSg c))) := by
  refine mC_in [some (.int (nI c))] pn_Mo_isSegment hC.1 rfl (Nat.le_of_ble_eq_true rfl) rfl ?_
  have yes : zSg c = true → mW G d ad M_Mo_isSegment 32 [some (.int (nI c))] [] μ (mRd μ (zB1 (zSg c))) := fun h => sMo_isSegment_32 rfl ⟨_, rfl, by rw [h]; decide, rfl⟩
  have e := zSg_iff (c := c)
  refine sMo_isSegment_0 (by omega) (Nat.le_of_ble_eq_true rfl) (mc_small hC hc) ?_
  rintro r μ1 ⟨rfl, rfl⟩
  refine sMo_isSegment_4 (fun z => yes ?_) (fun z => ?_)
  · have := zSm_iff.mp ((zB1_n _).mp z)
    exact e.mpr (Or.inl this)
  · have n1 : ¬ (97 ≤ c ∧ c ≤ 122) := fun w => by rw [zSm_iff.mpr w] at z; exact absurd z (by decide)
    refine sMo_isSegment_7 (by omega) (Nat.le_of_ble_eq_true rfl) (mc_digit hC hc) ?_
    rintro r μ1 ⟨rfl, rfl⟩
    refine sMo_isSegment_11 (fun z => yes ?_) (fun z => ?_)
    · have := zDg_iff.mp ((zB1_n _).mp z)
      exact e.mpr (Or.inr (Or.inl this))
    · have n2 : ¬ (48 ≤ c ∧ c ≤ 57) := fun w => by rw [zDg_iff.mpr w] at z; exact absurd z (by decide)
      refine sMo_isSegment_14 (fun z => yes ?_) (fun z => ?_)
      · have := (nI_eq (by omega) (by omega)).mp z
        exact e.mpr (by omega)
      · refine sMo_isSegment_20 (fun w => yes ?_) (fun w => ?_)
        · have := (nI_eq (by omega) (by omega)).mp w
          exact e.mpr (by omega)
        · refine sMo_isSegment_26 (fun y => ?_) (fun y => yes ?_)
          · have m1 : c ≠ 46 := fun q => z (by rw [q])
            have m2 : c ≠ 45 := fun q => w (by rw [q])
            have m3 : c ≠ 95 := fun q => y (by rw [q])
            refine sMo_isSegment_36 rfl ⟨_, rfl, ?_, rfl⟩
            rw [(Bool.not_eq_true (zSg c)).mp (fun q => by have := e.mp q; omega)]; decide
          · have := (nI_eq (by omega) (by omega)).mp y
            exact e.mpr (by omega)
theorem mc_query (hC : zCs G) (hd : 2 ≤ d) (hc : c < 128) : mC G d ad M_Mo_isQuery [.int (nI c)] μ (mRd μ (zB1 (zQc c))) := by
  refine mC_in [some (.int (nI c))] pn_Mo_isQuery hC.1 rfl (Nat.le_of_ble_eq_true rfl) rfl ?_
  have yes : zQc c = true → mW G d ad M_Mo_isQuery 25 [some (.int (nI c))] [] μ (mRd μ (zB1 (zQc c))) := fun h => sMo_isQuery_25 rfl ⟨_, rfl, by rw [h]; decide, rfl⟩
  have e := zQc_iff (c := c)
  have es := zSg_iff (c := c)
  refine sMo_isQuery_0 (by omega) (Nat.le_of_ble_eq_true rfl) (mc_segm hC (by omega) hc) ?_
  rintro r μ1 ⟨rfl, rfl⟩
  refine sMo_isQuery_4 (fun z => yes ?_) (fun z => ?_)
  · have := es.mp ((zB1_n _).mp z)
    exact e.mpr (by omega)
  · have n1 : ¬ zSg c = true := fun w => by rw [w] at z; exact absurd z (by decide)
    refine sMo_isQuery_7 (fun z => yes ?_) (fun z => ?_)
    · have := (nI_eq (by omega) (by omega)).mp z
      exact e.mpr (by omega)
    · refine sMo_isQuery_13 (fun w => yes ?_) (fun w => ?_)
      · have := (nI_eq (by omega) (by omega)).mp w
        exact e.mpr (by omega)
      · refine sMo_isQuery_19 (fun y => ?_) (fun y => yes ?_)
        · have m1 : c ≠ 61 := fun q => z (by rw [q])
          have m2 : c ≠ 38 := fun q => w (by rw [q])
          have m3 : c ≠ 43 := fun q => y (by rw [q])
          refine sMo_isQuery_29 rfl ⟨_, rfl, ?_, rfl⟩
          rw [(Bool.not_eq_true (zQc c)).mp (fun q => n1 (es.mpr (by have := e.mp q; omega)))]; decide
        · have := (nI_eq (by omega) (by omega)).mp y
          exact e.mpr (by omega)
end MA
