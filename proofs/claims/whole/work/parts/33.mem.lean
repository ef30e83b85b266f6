/-! The model's memory: its ints by field number, its arrays by field number. No method of it but the constructor makes anything: so the heap can be hidden. -/
abbrev zMm : Type := (Nat → Int32) × (Nat → Nat → Int32)
/-- how long the array of a field is: 0 if it is none -/
def mLn : Nat → Nat := fun k => match k with
  | 0 => 2000 | 2 => 2000 | 4 => 8000 | 6 => 9900 | 7 => 66 | 8 => 66 | 9 => 2200 | 10 => 2100 | 11 => 2100 | 17 => 30000 | 18 => 20 | 19 => 12 | 20 => 192 | 21 => 12 | 22 => 12 | 23 => 20 | 24 => 20 | 28 => 8 | 29 => 8 | 31 => 480 | 32 => 20 | 33 => 20 | 34 => 20 | 36 => 400 | 43 => 16 | 47 => 1500 | _ => 0
def mTy : Nat → FieldType := fun k => match k with
  | 7 => .int | 8 => .int | 10 => .int | 11 => .int | 18 => .int | 19 => .int | 21 => .int | 22 => .int | 28 => .int | 29 => .int | 32 => .int | 33 => .int | 34 => .int | 23 => .boolean | 24 => .boolean | _ => .byte
theorem mLn_le (k : Nat) : mLn k ≤ 65536 := by
  unfold mLn
  split <;> decide
def mFv (ad : Nat → Nat) (μ : zMm) (k : Nat) : Value := if mLn k = 0 then .int (μ.1 k) else .ref (ad k)
def mFs (ad : Nat → Nat) (μ : zMm) : List Value := (List.range 51).map (mFv ad μ)
theorem mFs_len {ad : Nat → Nat} {μ : zMm} : (mFs ad μ).length = 51 := by simp [mFs]
theorem mFs_at {ad : Nat → Nat} {μ : zMm} {k : Nat} (hk : k < 51) : (mFs ad μ)[k]? = some (mFv ad μ k) := by
  unfold mFs
  rw [List.getElem?_map, List.getElem?_range hk]
  rfl
def mB (k : Nat) : Prop := k < 51 ∧ mLn k ≠ 0 ∧ mTy k = .byte
def mI (k : Nat) : Prop := k < 51 ∧ mLn k ≠ 0 ∧ mTy k = .int
def mZ (k : Nat) : Prop := k < 51 ∧ mLn k ≠ 0 ∧ mTy k = .boolean
theorem mn_0 : mLn 0 ≠ 0 := by decide +kernel
theorem ml_0 : mLn 0 = 2000 := by decide +kernel
theorem mz_1 : mLn 1 = 0 := by decide +kernel
theorem mn_2 : mLn 2 ≠ 0 := by decide +kernel
theorem ml_2 : mLn 2 = 2000 := by decide +kernel
theorem mz_3 : mLn 3 = 0 := by decide +kernel
theorem mn_4 : mLn 4 ≠ 0 := by decide +kernel
theorem ml_4 : mLn 4 = 8000 := by decide +kernel
theorem mz_5 : mLn 5 = 0 := by decide +kernel
theorem mn_6 : mLn 6 ≠ 0 := by decide +kernel
theorem ml_6 : mLn 6 = 9900 := by decide +kernel
theorem mn_7 : mLn 7 ≠ 0 := by decide +kernel
theorem ml_7 : mLn 7 = 66 := by decide +kernel
theorem mn_8 : mLn 8 ≠ 0 := by decide +kernel
theorem ml_8 : mLn 8 = 66 := by decide +kernel
theorem mn_9 : mLn 9 ≠ 0 := by decide +kernel
theorem ml_9 : mLn 9 = 2200 := by decide +kernel
theorem mn_10 : mLn 10 ≠ 0 := by decide +kernel
theorem ml_10 : mLn 10 = 2100 := by decide +kernel
theorem mn_11 : mLn 11 ≠ 0 := by decide +kernel
theorem ml_11 : mLn 11 = 2100 := by decide +kernel
theorem mz_12 : mLn 12 = 0 := by decide +kernel
theorem mz_13 : mLn 13 = 0 := by decide +kernel
theorem mz_14 : mLn 14 = 0 := by decide +kernel
theorem mz_15 : mLn 15 = 0 := by decide +kernel
theorem mz_16 : mLn 16 = 0 := by decide +kernel
theorem mn_17 : mLn 17 ≠ 0 := by decide +kernel
theorem ml_17 : mLn 17 = 30000 := by decide +kernel
theorem mn_18 : mLn 18 ≠ 0 := by decide +kernel
theorem ml_18 : mLn 18 = 20 := by decide +kernel
theorem mn_19 : mLn 19 ≠ 0 := by decide +kernel
theorem ml_19 : mLn 19 = 12 := by decide +kernel
theorem mn_20 : mLn 20 ≠ 0 := by decide +kernel
theorem ml_20 : mLn 20 = 192 := by decide +kernel
theorem mn_21 : mLn 21 ≠ 0 := by decide +kernel
theorem ml_21 : mLn 21 = 12 := by decide +kernel
theorem mn_22 : mLn 22 ≠ 0 := by decide +kernel
theorem ml_22 : mLn 22 = 12 := by decide +kernel
theorem mn_23 : mLn 23 ≠ 0 := by decide +kernel
theorem ml_23 : mLn 23 = 20 := by decide +kernel
theorem mn_24 : mLn 24 ≠ 0 := by decide +kernel
theorem ml_24 : mLn 24 = 20 := by decide +kernel
theorem mz_25 : mLn 25 = 0 := by decide +kernel
theorem mz_26 : mLn 26 = 0 := by decide +kernel
theorem mz_27 : mLn 27 = 0 := by decide +kernel
theorem mn_28 : mLn 28 ≠ 0 := by decide +kernel
theorem ml_28 : mLn 28 = 8 := by decide +kernel
theorem mn_29 : mLn 29 ≠ 0 := by decide +kernel
theorem ml_29 : mLn 29 = 8 := by decide +kernel
theorem mz_30 : mLn 30 = 0 := by decide +kernel
theorem mn_31 : mLn 31 ≠ 0 := by decide +kernel
theorem ml_31 : mLn 31 = 480 := by decide +kernel
theorem mn_32 : mLn 32 ≠ 0 := by decide +kernel
theorem ml_32 : mLn 32 = 20 := by decide +kernel
theorem mn_33 : mLn 33 ≠ 0 := by decide +kernel
theorem ml_33 : mLn 33 = 20 := by decide +kernel
theorem mn_34 : mLn 34 ≠ 0 := by decide +kernel
theorem ml_34 : mLn 34 = 20 := by decide +kernel
theorem mz_35 : mLn 35 = 0 := by decide +kernel
theorem mn_36 : mLn 36 ≠ 0 := by decide +kernel
theorem ml_36 : mLn 36 = 400 := by decide +kernel
theorem mz_37 : mLn 37 = 0 := by decide +kernel
theorem mz_38 : mLn 38 = 0 := by decide +kernel
theorem mz_39 : mLn 39 = 0 := by decide +kernel
theorem mz_40 : mLn 40 = 0 := by decide +kernel
theorem mz_41 : mLn 41 = 0 := by decide +kernel
theorem mz_42 : mLn 42 = 0 := by decide +kernel
theorem mn_43 : mLn 43 ≠ 0 := by decide +kernel
theorem ml_43 : mLn 43 = 16 := by decide +kernel
theorem mz_44 : mLn 44 = 0 := by decide +kernel
theorem mz_45 : mLn 45 = 0 := by decide +kernel
theorem mz_46 : mLn 46 = 0 := by decide +kernel
theorem mn_47 : mLn 47 ≠ 0 := by decide +kernel
theorem ml_47 : mLn 47 = 1500 := by decide +kernel
theorem mz_48 : mLn 48 = 0 := by decide +kernel
theorem mz_49 : mLn 49 = 0 := by decide +kernel
theorem mz_50 : mLn 50 = 0 := by decide +kernel
theorem mk_0 : mB 0 := ⟨by decide +kernel, by decide +kernel, by decide +kernel⟩
theorem mk_2 : mB 2 := ⟨by decide +kernel, by decide +kernel, by decide +kernel⟩
theorem mk_4 : mB 4 := ⟨by decide +kernel, by decide +kernel, by decide +kernel⟩
theorem mk_6 : mB 6 := ⟨by decide +kernel, by decide +kernel, by decide +kernel⟩
theorem mk_7 : mI 7 := ⟨by decide +kernel, by decide +kernel, by decide +kernel⟩
theorem mk_8 : mI 8 := ⟨by decide +kernel, by decide +kernel, by decide +kernel⟩
theorem mk_9 : mB 9 := ⟨by decide +kernel, by decide +kernel, by decide +kernel⟩
theorem mk_10 : mI 10 := ⟨by decide +kernel, by decide +kernel, by decide +kernel⟩
theorem mk_11 : mI 11 := ⟨by decide +kernel, by decide +kernel, by decide +kernel⟩
theorem mk_17 : mB 17 := ⟨by decide +kernel, by decide +kernel, by decide +kernel⟩
theorem mk_18 : mI 18 := ⟨by decide +kernel, by decide +kernel, by decide +kernel⟩
theorem mk_19 : mI 19 := ⟨by decide +kernel, by decide +kernel, by decide +kernel⟩
theorem mk_20 : mB 20 := ⟨by decide +kernel, by decide +kernel, by decide +kernel⟩
theorem mk_21 : mI 21 := ⟨by decide +kernel, by decide +kernel, by decide +kernel⟩
theorem mk_22 : mI 22 := ⟨by decide +kernel, by decide +kernel, by decide +kernel⟩
theorem mk_23 : mZ 23 := ⟨by decide +kernel, by decide +kernel, by decide +kernel⟩
theorem mk_24 : mZ 24 := ⟨by decide +kernel, by decide +kernel, by decide +kernel⟩
theorem mk_28 : mI 28 := ⟨by decide +kernel, by decide +kernel, by decide +kernel⟩
theorem mk_29 : mI 29 := ⟨by decide +kernel, by decide +kernel, by decide +kernel⟩
theorem mk_31 : mB 31 := ⟨by decide +kernel, by decide +kernel, by decide +kernel⟩
theorem mk_32 : mI 32 := ⟨by decide +kernel, by decide +kernel, by decide +kernel⟩
theorem mk_33 : mI 33 := ⟨by decide +kernel, by decide +kernel, by decide +kernel⟩
theorem mk_34 : mI 34 := ⟨by decide +kernel, by decide +kernel, by decide +kernel⟩
theorem mk_36 : mB 36 := ⟨by decide +kernel, by decide +kernel, by decide +kernel⟩
theorem mk_43 : mB 43 := ⟨by decide +kernel, by decide +kernel, by decide +kernel⟩
theorem mk_47 : mB 47 := ⟨by decide +kernel, by decide +kernel, by decide +kernel⟩
/-- where the model's cells lie: the object itself at ad 50 -/
def mSt (G : zG) (ad : Nat → Nat) : Prop := zFr G (ad 50) ∧ (∀ k, k < 51 → mLn k = 0 → ad k = ad 50) ∧ (∀ k, k < 51 → mLn k ≠ 0 → zFr G (ad k) ∧ ad k ≠ ad 50) ∧ ∀ k k', k < 51 → k' < 51 → mLn k ≠ 0 → mLn k' ≠ 0 → ad k = ad k' → k = k'
def zM (G : zG) (ad : Nat → Nat) (H : Heap) (μ : zMm) : Prop := mSt G ad ∧ zObj G H (ad 50) 13 (mFs ad μ) ∧ ∀ k, k < 51 → mLn k ≠ 0 → zArr G H (ad k) (mTy k) (mLn k) (fun j => .int (μ.2 k j))
theorem zM.fi {G : zG} {ad : Nat → Nat} {H : Heap} {μ : zMm} (h : zM G ad H μ) (k : Nat) (hk : k < 51) (h0 : mLn k = 0) : zFd G H (ad 50) 13 k (.int (μ.1 k)) := h.2.1.fd (by rw [mFs_at hk]; unfold mFv; rw [if_pos h0])
theorem zM.fa {G : zG} {ad : Nat → Nat} {H : Heap} {μ : zMm} (h : zM G ad H μ) (k : Nat) (hk : k < 51) (h0 : mLn k ≠ 0) : zFd G H (ad 50) 13 k (.ref (ad k)) := h.2.1.fd (by rw [mFs_at hk]; unfold mFv; rw [if_neg h0])
theorem zM.ar {G : zG} {ad : Nat → Nat} {H : Heap} {μ : zMm} (h : zM G ad H μ) (k : Nat) (hk : k < 51) (h0 : mLn k ≠ 0) : zArr G H (ad k) (mTy k) (mLn k) (fun j => .int (μ.2 k j)) := h.2.2 k hk h0
theorem zM.ab {G : zG} {ad : Nat → Nat} {H : Heap} {μ : zMm} (h : zM G ad H μ) {k : Nat} (hk : mB k) : zArr G H (ad k) .byte (mLn k) (fun j => .int (μ.2 k j)) := by
  have := h.2.2 k hk.1 hk.2.1
  rw [hk.2.2] at this
  exact this
theorem zM.ai {G : zG} {ad : Nat → Nat} {H : Heap} {μ : zMm} (h : zM G ad H μ) {k : Nat} (hk : mI k) : zArr G H (ad k) .int (mLn k) (fun j => .int (μ.2 k j)) := by
  have := h.2.2 k hk.1 hk.2.1
  rw [hk.2.2] at this
  exact this
theorem zM.az {G : zG} {ad : Nat → Nat} {H : Heap} {μ : zMm} (h : zM G ad H μ) {k : Nat} (hk : mZ k) : zArr G H (ad k) .boolean (mLn k) (fun j => .int (μ.2 k j)) := by
  have := h.2.2 k hk.1 hk.2.1
  rw [hk.2.2] at this
  exact this
theorem zM.is {G : zG} {ad : Nat → Nat} {H : Heap} {μ : zMm} (h : zM G ad H μ) : zIs G H (ad 50) 13 := h.2.1.is
def mL (ad : Nat → Nat) : List Nat := (List.range 51).map ad
theorem mL_at (ad : Nat → Nat) {k : Nat} (hk : k < 51) : ad k ∈ mL ad := List.mem_map.mpr ⟨k, List.mem_range.mpr hk, rfl⟩
theorem zM.mo {G : zG} {ad : Nat → Nat} {S : List Nat} {H H1 : Heap} {μ : zMm} (h : zM G ad H μ) (m : zMo S H H1) (hS : ∀ q ∈ S, q ∉ mL ad) : zM G ad H1 μ := by
  refine ⟨h.1, h.2.1.mo m (fun z => hS _ z (mL_at ad (by decide))), fun k hk h0 => (h.2.2 k hk h0).mo m (fun z => hS _ z (mL_at ad hk))⟩
def updA (A : Nat → Nat → Int32) (k i : Nat) (x : Int32) : Nat → Nat → Int32 := fun k' => if k' = k then upd (A k) i x else A k'
theorem updA_s {A : Nat → Nat → Int32} {k i : Nat} {x : Int32} : updA A k i x k = upd (A k) i x := if_pos rfl
theorem updA_n {A : Nat → Nat → Int32} {k k' i : Nat} {x : Int32} (h : k' ≠ k) : updA A k i x k' = A k' := if_neg h
/-- the end of a method of the model -/
def mQ (G : zG) (ad : Nat → Nat) (H : Heap) (P : Option Value → zMm → Prop) : Option Value → Heap → Prop := fun v H2 => ∃ μ' : zMm, P v μ' ∧ zM G ad H2 μ' ∧ zMo (mL ad) H H2 ∧ zUs 0 0 H H2
def mW (G : zG) (d : Nat) (ad : Nat → Nat) (M : zMd) (pc : Nat) (lv : List (Option Value)) (st : List Value) (μ : zMm) (P : Option Value → zMm → Prop) : Prop := ∀ H0 H : Heap, zM G ad H μ → zMo (mL ad) H0 H → zUs 0 0 H0 H → zW G d M pc lv st H (mQ G ad H0 P)
def mC (G : zG) (d : Nat) (ad : Nat → Nat) (M : zMd) (av : List Value) (μ : zMm) (P : Option Value → zMm → Prop) : Prop := ∀ H : Heap, zM G ad H μ → zC G d M av H (mQ G ad H P)
def mPv (P : zMm → Prop) : Option Value → zMm → Prop := fun v μ => v = none ∧ P μ
def mPi (P : Int32 → zMm → Prop) : Option Value → zMm → Prop := fun v μ => ∃ r : Int32, v = some (.int r) ∧ P r μ
section MW
variable {G : zG} {d : Nat} {M : zMd} {pc : Nat} {lv : List (Option Value)} {st : List Value} {H : Heap} {Q : Option Value → Heap → Prop} {ad : Nat → Nat} {μ : zMm} {P : Option Value → zMm → Prop}
theorem zw_ialdN {a n i : Nat} {g : Nat → Int32} {x : Int32} (hd : decode M.2.1 pc = .ok (.iaload, 1)) (hA : zArr G H a .int n (fun j => .int (g j))) (hx : x = nI i) (hi : i < n) (hn : n ≤ 65536) (kk : zW G d M (pc + 1) lv (.int (g i) :: st) H Q) : zW G d M pc lv (.int x :: .ref a :: st) H Q := by
  subst hx
  refine zw_iald hd hA (vp_in_nI hi (by omega)) ?_
  rw [nI_clamp (by omega)]
  exact kk
theorem zw_baldN {a n i : Nat} {g : Nat → Int32} {x : Int32} (hd : decode M.2.1 pc = .ok (.baload, 1)) (hA : zArr G H a .byte n (fun j => .int (g j))) (hx : x = nI i) (hi : i < n) (hn : n ≤ 65536) (kk : zW G d M (pc + 1) lv (.int (g i) :: st) H Q) : zW G d M pc lv (.int x :: .ref a :: st) H Q := by
  subst hx
  refine zw_bald hd hA (vp_in_nI hi (by omega)) ?_
  rw [nI_clamp (by omega)]
  exact kk
theorem zw_zaldN {a n i : Nat} {g : Nat → Int32} {x : Int32} (hd : decode M.2.1 pc = .ok (.baload, 1)) (hA : zArr G H a .boolean n (fun j => .int (g j))) (hx : x = nI i) (hi : i < n) (hn : n ≤ 65536) (kk : zW G d M (pc + 1) lv (.int (g i) :: st) H Q) : zW G d M pc lv (.int x :: .ref a :: st) H Q := by
  subst hx
  refine zw_zald hd hA (vp_in_nI hi (by omega)) ?_
  rw [nI_clamp (by omega)]
  exact kk
theorem mPv_k {P2 : zMm → Prop} {rest : List Value} {H0 : Heap} (kk : ∀ μ1 : zMm, P2 μ1 → mW G d ad M pc lv rest μ1 P) (hm : zMo (mL ad) H0 H) (hu : zUs 0 0 H0 H) : ∀ v H1, mQ G ad H (mPv P2) v H1 → zOk G H1 → H.size ≤ H1.size → zT H ≤ zT H1 → zW G d M pc lv (v.toList ++ rest) H1 (mQ G ad H0 P) := by
  rintro v H1 ⟨μ1, ⟨rfl, h1⟩, h2, h3, h4⟩ - - -
  exact kk μ1 h1 H0 H1 h2 (hm.tr h3 (fun q z => Or.inl z) (fun q z => Or.inl z)) (hu.tr h4 (by omega) (by omega))
theorem mPi_k {P2 : Int32 → zMm → Prop} {rest : List Value} {H0 : Heap} (kk : ∀ (r : Int32) (μ1 : zMm), P2 r μ1 → mW G d ad M pc lv (.int r :: rest) μ1 P) (hm : zMo (mL ad) H0 H) (hu : zUs 0 0 H0 H) : ∀ v H1, mQ G ad H (mPi P2) v H1 → zOk G H1 → H.size ≤ H1.size → zT H ≤ zT H1 → zW G d M pc lv (v.toList ++ rest) H1 (mQ G ad H0 P) := by
  rintro v H1 ⟨μ1, ⟨r, rfl, h1⟩, h2, h3, h4⟩ - - -
  exact kk r μ1 h1 H0 H1 h2 (hm.tr h3 (fun q z => Or.inl z) (fun q z => Or.inl z)) (hu.tr h4 (by omega) (by omega))
theorem mw_puti {idx k : Nat} {v : Int32} {ty : FieldType} (hd : decode M.2.1 pc = .ok (.putfield idx, 3)) (hF : zPf M idx 13 k ty) (hk : k < 51) (h0 : mLn k = 0) (hn : narrow ty (.int v) = .int v) (hfit : fits ty (.int v) = true) (kk : mW G d ad M (pc + 3) lv st (upd μ.1 k v, μ.2) P) : mW G d ad M pc lv (.int v :: .ref (ad 50) :: st) μ P := by
  intro H0 H hM hm hu
  obtain ⟨hS, hO, hA⟩ := hM
  refine zw_putf hd hF hO (by rw [mFs_len]; decide) (by rw [mFs_len]; exact hk) hS.1 hn hfit (fun H1 h1 u1 => ?_)
  refine kk H0 H1 ⟨hS, ?_, fun j hj hj0 => (hA j hj hj0).mo u1.mo (fun z => (hS.2.2.1 j hj hj0).2 (List.mem_singleton.mp z))⟩ (hm.up u1 (Or.inl (mL_at ad (by decide)))) (hu.tr u1.us (c2 := 0) (s2 := 0) (by omega) (by omega))
  have e : (mFs ad μ).set k (.int v) = mFs ad (upd μ.1 k v, μ.2) := by
    apply List.ext_getElem?
    intro j
    rw [List.getElem?_set, mFs_len]
    by_cases q : k = j
    · subst q
      rw [if_pos rfl, if_pos hk, mFs_at hk]
      unfold mFv
      rw [if_pos h0]
      show some (Value.int v) = some (Value.int (upd μ.1 k v k))
      rw [pk_us]
    · rw [if_neg q]
      by_cases hj : j < 51
      · rw [mFs_at hj, mFs_at hj]
        unfold mFv
        by_cases hz : mLn j = 0
        · rw [if_pos hz, if_pos hz]
          show some (Value.int (μ.1 j)) = some (Value.int (upd μ.1 k v j))
          rw [pk_un (Ne.symm q)]
        · rw [if_neg hz, if_neg hz]
      · rw [List.getElem?_eq_none (by rw [mFs_len]; omega), List.getElem?_eq_none (by rw [mFs_len]; omega)]
  rw [← e]
  exact h1
theorem mM_arr {k i : Nat} {x : Int32} {H1 : Heap} (hM : zM G ad H μ) (hk : k < 51) (h0 : mLn k ≠ 0) (u : zUp (ad k) H H1) (hA : zArr G H1 (ad k) (mTy k) (mLn k) (updV (fun j => .int (μ.2 k j)) i (.int x))) : zM G ad H1 (μ.1, updA μ.2 k i x) := by
  obtain ⟨hS, hO, hB⟩ := hM
  refine ⟨hS, ?_, fun j hj hj0 => ?_⟩
  · have := hO.mo u.mo (fun z => (hS.2.2.1 k hk h0).2 (List.mem_singleton.mp z).symm)
    exact this
  · by_cases q : j = k
    · subst q
      refine hA.to (fun j2 _ => ?_)
      unfold updV
      show _ = Value.int (updA μ.2 j i x j j2)
      rw [updA_s]
      unfold upd
      split <;> rfl
    · have h1 := (hB j hj hj0).mo u.mo (fun z => q (hS.2.2.2 j k hj hk hj0 h0 (List.mem_singleton.mp z)))
      show zArr G H1 (ad j) (mTy j) (mLn j) (fun j2 => .int (updA μ.2 k i x j j2))
      rw [updA_n q]
      exact h1
theorem mw_iast {k i : Nat} {v x : Int32} (hd : decode M.2.1 pc = .ok (.iastore, 1)) (hkk : mI k) (hx : x = nI i) (hi : i < mLn k) (kk : mW G d ad M (pc + 1) lv st (μ.1, updA μ.2 k i v) P) : mW G d ad M pc lv (.int v :: .int x :: .ref (ad k) :: st) μ P := by
  intro H0 H hM hm hu
  obtain ⟨hk, h0, hty⟩ := hkk
  subst hx
  have hl := mLn_le k
  have hA := hM.2.2 k hk h0
  have hM0 := hM
  rw [hty] at hA
  refine zw_iast hd hA (vp_in_nI hi (by omega)) (hM.1.2.2.1 k hk h0).1 (fun H1 h1 u1 => ?_)
  rw [nI_clamp (by omega)] at h1
  exact kk H0 H1 (mM_arr hM0 hk h0 u1 (by rw [hty]; exact h1)) (hm.up u1 (Or.inl (mL_at ad hk))) (hu.tr u1.us (c2 := 0) (s2 := 0) (by omega) (by omega))
theorem mw_bast {k i : Nat} {v x : Int32} (hd : decode M.2.1 pc = .ok (.bastore, 1)) (hkk : mB k) (hx : x = nI i) (hi : i < mLn k) (kk : mW G d ad M (pc + 1) lv st (μ.1, updA μ.2 k i v.toInt8.toInt32) P) : mW G d ad M pc lv (.int v :: .int x :: .ref (ad k) :: st) μ P := by
  intro H0 H hM hm hu
  obtain ⟨hk, h0, hty⟩ := hkk
  subst hx
  have hl := mLn_le k
  have hA := hM.2.2 k hk h0
  have hM0 := hM
  rw [hty] at hA
  refine zw_bast hd hA (vp_in_nI hi (by omega)) (hM.1.2.2.1 k hk h0).1 (fun H1 h1 u1 => ?_)
  rw [nI_clamp (by omega)] at h1
  exact kk H0 H1 (mM_arr hM0 hk h0 u1 (by rw [hty]; exact h1)) (hm.up u1 (Or.inl (mL_at ad hk))) (hu.tr u1.us (c2 := 0) (s2 := 0) (by omega) (by omega))
theorem mw_zast {k i : Nat} {v x : Int32} (hd : decode M.2.1 pc = .ok (.bastore, 1)) (hkk : mZ k) (hx : x = nI i) (hi : i < mLn k) (hn : narrow .boolean (.int v) = .int v) (kk : mW G d ad M (pc + 1) lv st (μ.1, updA μ.2 k i v) P) : mW G d ad M pc lv (.int v :: .int x :: .ref (ad k) :: st) μ P := by
  intro H0 H hM hm hu
  obtain ⟨hk, h0, hty⟩ := hkk
  subst hx
  have hl := mLn_le k
  have hA := hM.2.2 k hk h0
  have hM0 := hM
  rw [hty] at hA
  refine zw_zast hd hA (vp_in_nI hi (by omega)) (hM.1.2.2.1 k hk h0).1 (fun H1 h1 u1 => ?_)
  rw [nI_clamp (by omega), hn] at h1
  exact kk H0 H1 (mM_arr hM0 hk h0 u1 (by rw [hty]; exact h1)) (hm.up u1 (Or.inl (mL_at ad hk))) (hu.tr u1.us (c2 := 0) (s2 := 0) (by omega) (by omega))
/-- a method's start -/
theorem mC_in {av : List Value} (lv : List (Option Value)) (hp : plainFor M.1 = true) (hG : zGo G) (hav : av.all (fun v => v.category == 1) = true) (hl : av.length ≤ M.2.2.1) (he : av.map some ++ List.replicate (M.2.2.1 - av.length) none = lv) (k : mW G d ad M 0 lv [] μ P) : mC G d ad M av μ P := by
  intro H hM
  refine zC_in lv hp hG hav hl he (fun ho => ?_)
  exact k H H hM zMo.rf zUs.rf
theorem mC_mono {av : List Value} {P2 : Option Value → zMm → Prop} (h : mC G d ad M av μ P2) (hq : ∀ v μ1, P2 v μ1 → P v μ1) : mC G d ad M av μ P := fun H hM => zC_mono (h H hM) (fun v H1 ⟨μ1, q1, q2⟩ => ⟨μ1, hq v μ1 q1, q2⟩)
end MW
