theorem zIx_ge {c : Nat} {u : List Nat} (hu : u.length ≤ 65536) : 0 ≤ zIx c u ↔ c ∈ u := by
  unfold zIx
  by_cases h : u.findIdx (· == c) < u.length
  · rw [if_pos h]
    have h1 := List.findIdx_getElem (p := (· == c)) (w := h)
    have h2 : u[u.findIdx (· == c)] = c := by simpa using h1
    exact ⟨fun _ => by rw [← h2]; exact List.getElem_mem h, fun _ => nI_pos' (by omega)⟩
  · rw [if_neg h]
    refine ⟨fun z => absurd z (by decide), fun z => absurd ?_ h⟩
    exact List.findIdx_lt_length_of_exists ⟨c, z, by simp⟩
/-- first place of a byte, or the length -/
theorem zIx_tw {c : Nat} {u : List Nat} : zIx c u = if zTw (zNo c) u < u.length then nI (zTw (zNo c) u) else -1 := by
  have e : u.findIdx (· == c) = zTw (zNo c) u := by
    symm
    apply tw_eq
    · exact List.findIdx_le_length
    · intro j hj
      have h1 := List.not_of_lt_findIdx hj
      have hl : j < u.length := Nat.lt_of_lt_of_le hj List.findIdx_le_length
      rw [List.getD_eq_getElem?_getD, List.getElem?_eq_getElem hl]
      simpa [zNo] using h1
    · intro h
      have h1 := List.findIdx_getElem (p := (· == c)) (w := h)
      rw [List.getD_eq_getElem?_getD, List.getElem?_eq_getElem h]
      simpa [zNo] using h1
  unfold zIx
  rw [e]
def zHo (u : List Nat) (c : Nat) : Bool := zSm c || zDg c || u.contains c
def zFt (j c : Nat) : Bool := zSm c || (Nat.ble 1 j && zDg c)
theorem zNk_cons {c : Nat} {l : List Nat} : zNk (c :: l) = if zSm c = true then min 8 (1 + zTw zNc l) else 0 := rfl
theorem nk_eq {t : List Nat} {i : Nat} (hi : i ≤ t.length) (h8 : i ≤ 8) (h1 : ∀ j, j < i → zFt j (t.getD j 0) = true) (h2 : i < t.length → zFt i (t.getD i 0) = false ∨ i = 8) : zNk t = i := by
  cases t with
  | nil =>
    have : i = 0 := Nat.le_zero.mp hi
    subst this
    rfl
  | cons c l =>
    rw [zNk_cons]
    cases i with
    | zero =>
      rcases h2 (Nat.succ_pos _) with h | h
      · have : zSm c = false := by
          have e : zFt 0 c = false := h
          simpa [zFt] using e
        rw [this]
        rfl
      · omega
    | succ i =>
      have e : zSm c = true := by
        have e : zFt 0 c = true := h1 0 (Nat.succ_pos _)
        simpa [zFt] using e
      rw [if_pos e]
      have hnc : ∀ j, zFt (j + 1) (l.getD j 0) = zNc (l.getD j 0) := fun j => by
        unfold zFt zNc
        rw [show Nat.ble 1 (j + 1) = true from Nat.ble_eq_true_of_le (Nat.succ_le_succ (Nat.zero_le j)), Bool.true_and]
      by_cases q : i < zTw zNc l
      · have h3 : i < l.length := Nat.lt_of_lt_of_le q (tw_le _ _)
        rcases h2 (Nat.succ_lt_succ h3) with h | h
        · have h4 : zFt (i + 1) (l.getD i 0) = false := h
          rw [hnc, tw_at zNc l i q] at h4
          cases h4
        · omega
      · have h3 : zTw zNc l = i := by
          rcases Nat.lt_or_ge (zTw zNc l) i with q2 | q2
          · have h4 : zFt (zTw zNc l + 1) (l.getD (zTw zNc l) 0) = true := h1 (zTw zNc l + 1) (by omega)
            have h5 := tw_end zNc l (by have : i + 1 ≤ l.length + 1 := hi; omega)
            rw [hnc, h5] at h4
            cases h4
          · omega
        rw [h3]
        omega
def zNa (t : List Nat) : Int32 := if t.length = 0 then 0 else if zNk t < t.length then nI (zNk t) else -1
theorem zNk_le (t : List Nat) : zNk t ≤ t.length ∧ zNk t ≤ 8 := by
  cases t with
  | nil => exact ⟨Nat.le_refl _, by decide⟩
  | cons c l =>
    rw [zNk_cons]
    have := tw_le zNc l
    split
    · have : (c :: l).length = l.length + 1 := rfl
      omega
    · exact ⟨Nat.zero_le _, by decide⟩
theorem zNm_iff {t : List Nat} : zNm t = true ↔ t.length ≠ 0 ∧ zNk t = t.length := by
  unfold zNm
  cases t with
  | nil => simp
  | cons c l => simp
theorem zNa_iff {t : List Nat} (h : t.length ≤ 65536) : zNa t = -1 ↔ zNm t = true := by
  rw [zNm_iff]
  unfold zNa
  have h1 := zNk_le t
  by_cases h0 : t.length = 0
  · rw [if_pos h0]
    exact ⟨fun z => absurd z (by decide), fun z => absurd h0 z.1⟩
  · rw [if_neg h0]
    by_cases h2 : zNk t < t.length
    · rw [if_pos h2]
      refine ⟨fun z => absurd (show (-1 : Int32) < 0 by decide) (by rw [← z]; exact nI_pos (by omega)), fun z => by omega⟩
    · rw [if_neg h2]
      exact ⟨fun _ => ⟨h0, by omega⟩, fun _ => rfl⟩
theorem zNm_all {t : List Nat} (h : zNm t = true) : 1 ≤ t.length ∧ t.length ≤ 8 ∧ t.all zNc = true := by
  obtain ⟨h1, h2⟩ := zNm_iff.mp h
  have h3 := zNk_le t
  refine ⟨by omega, by omega, ?_⟩
  cases t with
  | nil => rfl
  | cons c l =>
    rw [zNk_cons] at h2
    have h4 := tw_le zNc l
    have e : (c :: l).length = l.length + 1 := rfl
    split at h2
    · rename_i q
      have h5 : zTw zNc l = l.length := by omega
      rw [List.all_cons, tw_all.mp h5]
      simp [zNc, q]
    · omega
/-- a NUMBER -/
def zNu (t : List Nat) : Bool := !t.isEmpty && Nat.ble t.length 4 && t.all zDg
def zVal (t : List Nat) : Nat := t.foldl (fun v c => v * 10 + (c - 48)) 0
theorem take_s {t : List Nat} {i : Nat} (h : i < t.length) : t.take (i + 1) = t.take i ++ [t.getD i 0] := by
  rw [List.take_succ, List.getElem?_eq_getElem h, List.getD_eq_getElem?_getD, List.getElem?_eq_getElem h]
  rfl
theorem zVal_s {t : List Nat} {i : Nat} (h : i < t.length) : zVal (t.take (i + 1)) = zVal (t.take i) * 10 + (t.getD i 0 - 48) := by
  unfold zVal
  rw [take_s h, List.foldl_append]
  rfl
theorem zVal_le : ∀ (t : List Nat), (∀ c ∈ t, c ≤ 57) → zVal t < 10 ^ t.length := by
  intro t
  have main : ∀ (t : List Nat) (v : Nat), (∀ c ∈ t, c ≤ 57) → t.foldl (fun v c => v * 10 + (c - 48)) v < (v + 1) * 10 ^ t.length := by
    intro t
    induction t with
    | nil => intro v _; simp
    | cons c l ih =>
      intro v h
      have h1 := ih (v * 10 + (c - 48)) (fun x hx => h x (List.mem_cons_of_mem _ hx))
      have h2 := h c List.mem_cons_self
      rw [List.foldl_cons, List.length_cons, Nat.pow_succ]
      refine Nat.lt_of_lt_of_le h1 ?_
      have h3 : v * 10 + (c - 48) + 1 ≤ (v + 1) * 10 := by omega
      calc (v * 10 + (c - 48) + 1) * 10 ^ l.length ≤ ((v + 1) * 10) * 10 ^ l.length := Nat.mul_le_mul_right _ h3
        _ = (v + 1) * (10 ^ l.length * 10) := by rw [Nat.mul_assoc, Nat.mul_comm 10]
  intro h
  have := main t 0 h
  rw [Nat.zero_add, Nat.one_mul] at this
  exact this
theorem getD_all {p : Nat → Bool} {t : List Nat} (h : t.all p = true) {i : Nat} (hi : i < t.length) : p (t.getD i 0) = true := List.all_eq_true.mp h _ (getD_mem hi)
section KT
variable {G : zG} {d : Nat} {L : List Nat} {H : Heap} {a b : Nat} {t u : List Nat}
theorem c_Tx_small (hC : zCs G) {c : Nat} (hc : c < 65536) : zC G d M_Tx_isSmallLetter [.int (nI c)] H (zRd H (if zSm c = true then 1 else 0)) := by
  refine zC_in [some (.int (nI c))] pn_Tx_isSmallLetter hC.1 rfl (Nat.le_of_ble_eq_true rfl) rfl (fun ho => ?_)
  refine sTx_isSmallLetter_0 (fun e => sTx_isSmallLetter_16 rfl ⟨_, rfl, ?_, rfl⟩) (fun e => sTx_isSmallLetter_6 (fun e2 => sTx_isSmallLetter_16 rfl ⟨_, rfl, ?_, rfl⟩) (fun e2 => sTx_isSmallLetter_12 rfl ⟨_, rfl, ?_, rfl⟩))
  · rw [if_neg]
    have := (nI_ltI (b := 97) (by omega) (by decide)).mp e
    rw [zSm_iff]; omega
  · rw [if_neg]
    have := (nI_ltI (a := 122) (by decide) (by omega)).mp e2
    rw [zSm_iff]; omega
  · rw [if_pos]
    have h1 : ¬ c < 97 := fun z => e ((nI_ltI (b := 97) (by omega) (by decide)).mpr z)
    have h2 : ¬ 122 < c := fun z => e2 ((nI_ltI (a := 122) (by decide) (by omega)).mpr z)
    rw [zSm_iff]; omega
theorem c_Tx_digit (hC : zCs G) {c : Nat} (hc : c < 65536) : zC G d M_Tx_isDigit [.int (nI c)] H (zRd H (if zDg c = true then 1 else 0)) := by
  refine zC_in [some (.int (nI c))] pn_Tx_isDigit hC.1 rfl (Nat.le_of_ble_eq_true rfl) rfl (fun ho => ?_)
  refine sTx_isDigit_0 (fun e => sTx_isDigit_16 rfl ⟨_, rfl, ?_, rfl⟩) (fun e => sTx_isDigit_6 (fun e2 => sTx_isDigit_16 rfl ⟨_, rfl, ?_, rfl⟩) (fun e2 => sTx_isDigit_12 rfl ⟨_, rfl, ?_, rfl⟩))
  · rw [if_neg]
    have := (nI_ltI (b := 48) (by omega) (by decide)).mp e
    rw [zDg_iff]; omega
  · rw [if_neg]
    have := (nI_ltI (a := 57) (by decide) (by omega)).mp e2
    rw [zDg_iff]; omega
  · rw [if_pos]
    have h1 : ¬ c < 48 := fun z => e ((nI_ltI (b := 48) (by omega) (by decide)).mpr z)
    have h2 : ¬ 57 < c := fun z => e2 ((nI_ltI (a := 57) (by decide) (by omega)).mpr z)
    rw [zDg_iff]; omega
theorem if01 {b : Bool} : (¬ (if b = true then (1 : Int32) else 0) = 0) ↔ b = true := by cases b <;> decide
theorem if00 {b : Bool} : ((if b = true then (1 : Int32) else 0) = 0) ↔ b = false := by cases b <;> decide
theorem c_Tx_badByte (hC : zCs G) (hd : 4 ≤ d) (h : zTx G L H a t) : zC G d M_Tx_badByte [.ref a] H (zRd H (if zTw zOkc t < t.length then nI (zTw zOkc t) else -1)) := by
  have hl := h.le
  refine zC_in [some (.ref a), none, none] pn_Tx_badByte hC.1 rfl (Nat.le_of_ble_eq_true rfl) rfl (fun ho => ?_)
  refine sTx_badByte_0 ?_
  have main : ∀ (k j : Nat) (o : Option Value), j + k = t.length → (∀ i, i < j → zOkc (t.getD i 0) = true) → zW G d M_Tx_badByte 2 [some (.ref a), some (.int (nI j)), o] [] H (zRd H (if zTw zOkc t < t.length then nI (zTw zOkc t) else -1)) := by
    intro k
    induction k with
    | zero =>
      intro j o hj hs
      refine sTx_badByte_2 (by omega) (Nat.le_of_ble_eq_true rfl) h.is (c_St_length hC (by omega) h) ?_
      rintro r H1 ⟨rfl, rfl⟩ - - -
      refine sTx_badByte_7 (fun _ => ?_) (fun z => absurd (nI_le (by omega) (by omega)) z)
      refine sTx_badByte_42 ⟨_, rfl, ?_, rfl⟩
      have e : zTw zOkc t = j := tw_eq zOkc t j (by omega) hs (fun z => absurd z (by omega))
      rw [e, if_neg (by omega)]
    | succ k ih =>
      intro j o hj hs
      refine sTx_badByte_2 (by omega) (Nat.le_of_ble_eq_true rfl) h.is (c_St_length hC (by omega) h) ?_
      rintro r H1 ⟨rfl, rfl⟩ - - -
      refine sTx_badByte_7 (fun z => absurd z (nI_ge (by omega) (by omega))) (fun _ => ?_)
      refine sTx_badByte_10 (by omega) (Nat.le_of_ble_eq_true rfl) h.is (c_St_charAt hC (by omega) h (i := j) (by omega)) ?_
      rintro r H1 ⟨rfl, rfl⟩ - - -
      have hb := zTx_get h.b j
      have good : zOkc (t.getD j 0) = true → ∀ o2, zW G d M_Tx_badByte 36 [some (.ref a), some (.int (nI j)), o2] [] H1 (zRd H1 (if zTw zOkc t < t.length then nI (zTw zOkc t) else -1)) := by
        intro g o2
        refine sTx_badByte_36 ?_
        rw [nI_1]
        exact ih (j + 1) _ (by omega) (lt_s hs g)
      have bad : zOkc (t.getD j 0) = false → ∀ o2, zW G d M_Tx_badByte 34 [some (.ref a), some (.int (nI j)), o2] [] H1 (zRd H1 (if zTw zOkc t < t.length then nI (zTw zOkc t) else -1)) := by
        intro g o2
        refine sTx_badByte_34 ⟨_, rfl, ?_, rfl⟩
        have e : zTw zOkc t = j := tw_eq zOkc t j (by omega) hs (fun _ => g)
        rw [e, if_pos (by omega)]
      have no : ∀ {c : Nat}, ¬ (c = 10 ∨ (32 ≤ c ∧ c ≤ 126)) → zOkc c = false := fun {c} z => (Bool.not_eq_true _).mp (fun q => z (zOkc_iff.mp q))
      refine sTx_badByte_15 (fun e => good (zOkc_iff.mpr (Or.inl ((nI_eq (b := 10) (by omega) (by decide)).mp e))) _) (fun e => ?_)
      have e' : t.getD j 0 ≠ 10 := fun z => e (by rw [z]; rfl)
      refine sTx_badByte_22 (fun e2 => bad (no ?_) _) (fun e2 => ?_)
      · have := (nI_ltI (b := 32) (by omega) (by decide)).mp e2
        omega
      · have e2' : ¬ t.getD j 0 < 32 := fun z => e2 ((nI_ltI (b := 32) (by omega) (by decide)).mpr z)
        refine sTx_badByte_28 (fun e3 => good (zOkc_iff.mpr (Or.inr ⟨(by omega), (nI_leI (b := 126) (by omega) (by decide)).mp e3⟩)) _) (fun e3 => bad (no ?_) _)
        have e3' : ¬ t.getD j 0 ≤ 126 := fun z => e3 ((nI_leI (b := 126) (by omega) (by decide)).mpr z)
        omega
  exact main t.length 0 none (by omega) (fun i z => absurd z (Nat.not_lt_zero i))
theorem c_Tx_noNameAt (hC : zCs G) (hd : 4 ≤ d) (h : zTx G L H a t) : zC G d M_Tx_noNameAt [.ref a] H (zRd H (zNa t)) := by
  have hl := h.le
  refine zC_in [some (.ref a), none, none, none] pn_Tx_noNameAt hC.1 rfl (Nat.le_of_ble_eq_true rfl) rfl (fun ho => ?_)
  refine sTx_noNameAt_0 ?_
  have main : ∀ (k j : Nat) (o o' : Option Value), j + k = t.length → j ≤ 8 → (∀ i, i < j → zFt i (t.getD i 0) = true) → zW G d M_Tx_noNameAt 2 [some (.ref a), some (.int (nI j)), o, o'] [] H (zRd H (zNa t)) := by
    intro k
    induction k with
    | zero =>
      intro j o o' hj h8 hs
      refine sTx_noNameAt_2 (by omega) (Nat.le_of_ble_eq_true rfl) h.is (c_St_length hC (by omega) h) ?_
      rintro r H1 ⟨rfl, rfl⟩ - - -
      refine sTx_noNameAt_7 (fun _ => ?_) (fun z => absurd (nI_le (by omega) (by omega)) z)
      refine sTx_noNameAt_58 (by omega) (Nat.le_of_ble_eq_true rfl) h.is (c_St_isEmpty hC h) ?_
      rintro r H1 ⟨rfl, rfl⟩ - - -
      have e := nk_eq (i := j) (by omega) h8 hs (fun z => absurd z (by omega))
      by_cases q : t = []
      · rw [if_pos q]
        refine sTx_noNameAt_62 (fun z => absurd z (by decide)) (fun _ => sTx_noNameAt_65 ⟨_, rfl, ?_, rfl⟩)
        unfold zNa
        rw [if_pos (by rw [q]; rfl)]
      · rw [if_neg q]
        refine sTx_noNameAt_62 (fun _ => sTx_noNameAt_69 ⟨_, rfl, ?_, rfl⟩) (fun z => absurd rfl z)
        unfold zNa
        rw [if_neg (fun z => q (List.length_eq_zero_iff.mp z)), if_neg (by omega)]
    | succ k ih =>
      intro j o o' hj h8 hs
      refine sTx_noNameAt_2 (by omega) (Nat.le_of_ble_eq_true rfl) h.is (c_St_length hC (by omega) h) ?_
      rintro r H1 ⟨rfl, rfl⟩ - - -
      refine sTx_noNameAt_7 (fun z => absurd z (nI_ge (by omega) (by omega))) (fun _ => ?_)
      refine sTx_noNameAt_10 (by omega) (Nat.le_of_ble_eq_true rfl) h.is (c_St_charAt hC (by omega) h (i := j) (by omega)) ?_
      rintro r H1 ⟨rfl, rfl⟩ - - -
      have hb := zTx_get h.b j
      have stop : (zFt j (t.getD j 0) = false ∨ j = 8) → ∀ o3 o4, zW G d M_Tx_noNameAt 50 [some (.ref a), some (.int (nI j)), o3, o4] [] H1 (zRd H1 (zNa t)) := by
        intro g o3 o4
        refine sTx_noNameAt_50 ⟨_, rfl, ?_, rfl⟩
        have e := nk_eq (i := j) (by omega) h8 hs (fun _ => g)
        unfold zNa
        rw [if_neg (by omega), e, if_pos (by omega)]
      have good : zFt j (t.getD j 0) = true → ∀ o3 o4, zW G d M_Tx_noNameAt 34 [some (.ref a), some (.int (nI j)), o3, o4] [] H1 (zRd H1 (zNa t)) := by
        intro g o3 o4
        refine sTx_noNameAt_34 (fun z => absurd z (by decide)) (fun _ => ?_)
        refine sTx_noNameAt_44 (fun e => ?_) (fun e => stop (Or.inr ?_) _ _)
        · refine sTx_noNameAt_52 ?_
          rw [nI_1]
          have := (nI_ltI (b := 8) (by omega) (by decide)).mp e
          exact ih (j + 1) _ _ (by omega) (by omega) (lt_s hs g)
        · have : ¬ j < 8 := fun z => e ((nI_ltI (b := 8) (by omega) (by decide)).mpr z)
          omega
      have bad : zFt j (t.getD j 0) = false → ∀ o3 o4, zW G d M_Tx_noNameAt 38 [some (.ref a), some (.int (nI j)), o3, o4] [] H1 (zRd H1 (zNa t)) := by
        intro g o3 o4
        exact sTx_noNameAt_38 (fun _ => stop (Or.inl g) _ _) (fun z => absurd rfl z)
      refine sTx_noNameAt_15 (by omega) (Nat.le_of_ble_eq_true rfl) (c_Tx_small hC (by omega)) ?_
      rintro r H1 ⟨rfl, rfl⟩ - - -
      refine sTx_noNameAt_20 (fun e => good ?_ _ _) (fun e => ?_)
      · unfold zFt; rw [if01.mp e]; rfl
      · have e' := if00.mp e
        refine sTx_noNameAt_23 (fun e2 => bad ?_ _ _) (fun e2 => ?_)
        · have : j = 0 := by
            rcases Nat.eq_zero_or_pos j with q | q
            · exact q
            · exact absurd e2 (nI_nle q (by omega))
          unfold zFt; rw [e', this]; rfl
        · have hj0 : 0 < j := by
            rcases Nat.eq_zero_or_pos j with q | q
            · exact absurd (by rw [q]; decide) e2
            · exact q
          have hf : zFt j (t.getD j 0) = zDg (t.getD j 0) := by
            unfold zFt
            rw [e', show Nat.ble 1 j = true from Nat.ble_eq_true_of_le hj0]
            rfl
          refine sTx_noNameAt_27 (by omega) (Nat.le_of_ble_eq_true rfl) (c_Tx_digit hC (by omega)) ?_
          rintro r H1 ⟨rfl, rfl⟩ - - -
          refine sTx_noNameAt_31 (fun e3 => bad (by rw [hf]; exact if00.mp e3) _ _) (fun e3 => good (by rw [hf]; exact if01.mp e3) _ _)
  exact main t.length 0 none none (by omega) (by decide) (fun i z => absurd z (Nat.not_lt_zero i))
theorem c_Tx_isName (hC : zCs G) (hd : 5 ≤ d) (h : zTx G L H a t) : zC G d M_Tx_isName [.ref a] H (zRd H (if zNm t = true then 1 else 0)) := by
  have hl := h.le
  refine zC_in [some (.ref a)] pn_Tx_isName hC.1 rfl (Nat.le_of_ble_eq_true rfl) rfl (fun ho => ?_)
  refine sTx_isName_0 zRf_ref (by omega) (Nat.le_of_ble_eq_true rfl) (c_Tx_noNameAt hC (by omega) h) ?_
  rintro r H1 ⟨rfl, rfl⟩ - - -
  refine sTx_isName_4 (fun e => sTx_isName_12 rfl ⟨_, rfl, ?_, rfl⟩) (fun e => sTx_isName_8 rfl ⟨_, rfl, ?_, rfl⟩)
  · rw [if_neg (fun z => e ((zNa_iff hl).mpr z))]
  · rw [if_pos ((zNa_iff hl).mp e)]
theorem c_Tx_hasOnly (hC : zCs G) (hd : 4 ≤ d) {L2 : List Nat} (h : zTx G L H a t) (h' : zTx G L2 H b u) : zC G d M_Tx_hasOnly [.ref a, .ref b] H (zRd H (if t.all (zHo u) = true then 1 else 0)) := by
  have hl := h.le
  have hlu := h'.le
  refine zC_in [some (.ref a), some (.ref b), none, none] pn_Tx_hasOnly hC.1 rfl (Nat.le_of_ble_eq_true rfl) rfl (fun ho => ?_)
  refine sTx_hasOnly_0 ?_
  have main : ∀ (k j : Nat) (o : Option Value), j + k = t.length → (∀ i, i < j → zHo u (t.getD i 0) = true) → zW G d M_Tx_hasOnly 2 [some (.ref a), some (.ref b), some (.int (nI j)), o] [] H (zRd H (if t.all (zHo u) = true then 1 else 0)) := by
    intro k
    induction k with
    | zero =>
      intro j o hj hs
      refine sTx_hasOnly_2 (by omega) (Nat.le_of_ble_eq_true rfl) h.is (c_St_length hC (by omega) h) ?_
      rintro r H1 ⟨rfl, rfl⟩ - - -
      refine sTx_hasOnly_7 (fun _ => ?_) (fun z => absurd (nI_le (by omega) (by omega)) z)
      refine sTx_hasOnly_46 rfl ⟨_, rfl, ?_, rfl⟩
      rw [if_pos]
      exact tw_all.mp (tw_eq (zHo u) t t.length (Nat.le_refl _) (fun i hi => hs i (by omega)) (fun z => absurd z (Nat.lt_irrefl _)))
    | succ k ih =>
      intro j o hj hs
      refine sTx_hasOnly_2 (by omega) (Nat.le_of_ble_eq_true rfl) h.is (c_St_length hC (by omega) h) ?_
      rintro r H1 ⟨rfl, rfl⟩ - - -
      refine sTx_hasOnly_7 (fun z => absurd z (nI_ge (by omega) (by omega))) (fun _ => ?_)
      refine sTx_hasOnly_10 (by omega) (Nat.le_of_ble_eq_true rfl) h.is (c_St_charAt hC (by omega) h (i := j) (by omega)) ?_
      rintro r H1 ⟨rfl, rfl⟩ - - -
      have hb := zTx_get h.b j
      have good : zHo u (t.getD j 0) = true → ∀ o3, zW G d M_Tx_hasOnly 40 [some (.ref a), some (.ref b), some (.int (nI j)), o3] [] H1 (zRd H1 (if t.all (zHo u) = true then 1 else 0)) := by
        intro g o3
        refine sTx_hasOnly_40 ?_
        rw [nI_1]
        exact ih (j + 1) _ (by omega) (lt_s hs g)
      refine sTx_hasOnly_15 (by omega) (Nat.le_of_ble_eq_true rfl) (c_Tx_small hC (by omega)) ?_
      rintro r H1 ⟨rfl, rfl⟩ - - -
      refine sTx_hasOnly_20 (fun e => good ?_ _) (fun e => ?_)
      · unfold zHo; rw [if01.mp e]; rfl
      · have e1 := if00.mp e
        refine sTx_hasOnly_23 (by omega) (Nat.le_of_ble_eq_true rfl) (c_Tx_digit hC (by omega)) ?_
        rintro r H1 ⟨rfl, rfl⟩ - - -
        refine sTx_hasOnly_27 (fun e => good ?_ _) (fun e => ?_)
        · unfold zHo; rw [e1, if01.mp e]; rfl
        · have e2 := if00.mp e
          refine sTx_hasOnly_30 (by omega) (Nat.le_of_ble_eq_true rfl) h'.is (c_St_indexOf hC (by omega) h' (by omega)) ?_
          rintro r H1 ⟨rfl, rfl⟩ - - -
          refine sTx_hasOnly_35 (fun e => good ?_ _) (fun e => ?_)
          · unfold zHo
            rw [e1, e2]
            simpa using (zIx_ge hlu).mp e
          · refine sTx_hasOnly_38 rfl ⟨_, rfl, ?_, rfl⟩
            rw [if_neg]
            intro z
            have z2 := getD_all z (i := j) (by omega)
            unfold zHo at z2
            rw [e1, e2] at z2
            exact e ((zIx_ge hlu).mpr (by simpa using z2))
  exact main t.length 0 none (by omega) (fun i z => absurd z (Nat.not_lt_zero i))
theorem c_Tx_isNumber (hC : zCs G) (hd : 4 ≤ d) (h : zTx G L H a t) : zC G d M_Tx_isNumber [.ref a] H (zRd H (if zNu t = true then 1 else 0)) := by
  have hl := h.le
  refine zC_in [some (.ref a), none] pn_Tx_isNumber hC.1 rfl (Nat.le_of_ble_eq_true rfl) rfl (fun ho => ?_)
  refine sTx_isNumber_0 (by omega) (Nat.le_of_ble_eq_true rfl) h.is (c_St_isEmpty hC h) ?_
  rintro r H1 ⟨rfl, rfl⟩ - - -
  have nu : zNu t = true ↔ t ≠ [] ∧ t.length ≤ 4 ∧ t.all zDg = true := by
    unfold zNu
    cases t with
    | nil => simp
    | cons c l => simp
  by_cases q : t = []
  · rw [if_pos q]
    refine sTx_isNumber_4 (fun _ => sTx_isNumber_15 rfl ⟨_, rfl, ?_, rfl⟩) (fun z => absurd z (by decide))
    rw [if_neg (fun z => (nu.mp z).1 q)]
  · rw [if_neg q]
    refine sTx_isNumber_4 (fun z => absurd rfl z) (fun _ => ?_)
    refine sTx_isNumber_7 (by omega) (Nat.le_of_ble_eq_true rfl) h.is (c_St_length hC (by omega) h) ?_
    rintro r H1 ⟨rfl, rfl⟩ - - -
    refine sTx_isNumber_11 (fun e => ?_) (fun e => sTx_isNumber_15 rfl ⟨_, rfl, ?_, rfl⟩)
    · have h4 := (nI_leI (b := 4) (by omega) (by decide)).mp e
      refine sTx_isNumber_17 ?_
      have main : ∀ (k j : Nat), j + k = t.length → (∀ i, i < j → zDg (t.getD i 0) = true) → zW G d M_Tx_isNumber 19 [some (.ref a), some (.int (nI j))] [] H1 (zRd H1 (if zNu t = true then 1 else 0)) := by
        intro k
        induction k with
        | zero =>
          intro j hj hs
          refine sTx_isNumber_19 (by omega) (Nat.le_of_ble_eq_true rfl) h.is (c_St_length hC (by omega) h) ?_
          rintro r H1 ⟨rfl, rfl⟩ - - -
          refine sTx_isNumber_24 (fun _ => ?_) (fun z => absurd (nI_le (by omega) (by omega)) z)
          refine sTx_isNumber_46 rfl ⟨_, rfl, ?_, rfl⟩
          rw [if_pos (nu.mpr ⟨q, h4, tw_all.mp (tw_eq zDg t t.length (Nat.le_refl _) (fun i hi => hs i (by omega)) (fun z => absurd z (Nat.lt_irrefl _)))⟩)]
        | succ k ih =>
          intro j hj hs
          refine sTx_isNumber_19 (by omega) (Nat.le_of_ble_eq_true rfl) h.is (c_St_length hC (by omega) h) ?_
          rintro r H1 ⟨rfl, rfl⟩ - - -
          refine sTx_isNumber_24 (fun z => absurd z (nI_ge (by omega) (by omega))) (fun _ => ?_)
          refine sTx_isNumber_27 (by omega) (Nat.le_of_ble_eq_true rfl) h.is (c_St_charAt hC (by omega) h (i := j) (by omega)) ?_
          rintro r H1 ⟨rfl, rfl⟩ - - -
          have hb := zTx_get h.b j
          refine sTx_isNumber_32 (by omega) (Nat.le_of_ble_eq_true rfl) (c_Tx_digit hC (by omega)) ?_
          rintro r H1 ⟨rfl, rfl⟩ - - -
          refine sTx_isNumber_35 (fun e => ?_) (fun e => sTx_isNumber_38 rfl ⟨_, rfl, ?_, rfl⟩)
          · refine sTx_isNumber_40 ?_
            rw [nI_1]
            exact ih (j + 1) (by omega) (lt_s hs (if01.mp e))
          · rw [if_neg]
            intro z
            have z2 := getD_all (nu.mp z).2.2 (i := j) (by omega)
            rw [if00.mp e] at z2
            cases z2
      exact main t.length 0 (by omega) (fun i z => absurd z (Nat.not_lt_zero i))
    · rw [if_neg]
      intro z
      exact e ((nI_leI (b := 4) (by omega) (by decide)).mpr (nu.mp z).2.1)
theorem c_Tx_number (hC : zCs G) (hd : 4 ≤ d) (h : zTx G L H a t) (hn : zNu t = true) : zC G d M_Tx_number [.ref a] H (zRd H (nI (zVal t))) := by
  have hl := h.le
  have hdg : t.all zDg = true := by
    unfold zNu at hn
    simp only [Bool.and_eq_true] at hn
    exact hn.2
  refine zC_in [some (.ref a), none, none] pn_Tx_number hC.1 rfl (Nat.le_of_ble_eq_true rfl) rfl (fun ho => ?_)
  refine sTx_number_0 ?_
  have main : ∀ (k j : Nat), j + k = t.length → zW G d M_Tx_number 4 [some (.ref a), some (.int (nI (zVal (t.take j)))), some (.int (nI j))] [] H (zRd H (nI (zVal t))) := by
    intro k
    induction k with
    | zero =>
      intro j hj
      refine sTx_number_4 (by omega) (Nat.le_of_ble_eq_true rfl) h.is (c_St_length hC (by omega) h) ?_
      rintro r H1 ⟨rfl, rfl⟩ - - -
      refine sTx_number_9 (fun _ => ?_) (fun z => absurd (nI_le (by omega) (by omega)) z)
      refine sTx_number_32 ⟨_, rfl, ?_, rfl⟩
      rw [List.take_of_length_le (by omega)]
    | succ k ih =>
      intro j hj
      refine sTx_number_4 (by omega) (Nat.le_of_ble_eq_true rfl) h.is (c_St_length hC (by omega) h) ?_
      rintro r H1 ⟨rfl, rfl⟩ - - -
      refine sTx_number_9 (fun z => absurd z (nI_ge (by omega) (by omega))) (fun _ => ?_)
      refine sTx_number_12 (by omega) (Nat.le_of_ble_eq_true rfl) h.is (c_St_charAt hC (by omega) h (i := j) (by omega)) ?_
      rintro r H1 ⟨rfl, rfl⟩ - - -
      refine sTx_number_21 ?_
      have hj2 : j < t.length := (by omega)
      have h1 := zDg_iff.mp (getD_all hdg hj2)
      have e : nI (zVal (t.take j)) * (10 : Int32) + (nI (t.getD j 0) - (48 : Int32)) = nI (zVal (t.take (j + 1))) := by
        rw [zVal_s hj2, show nI (zVal (t.take j)) * (10 : Int32) = nI (zVal (t.take j) * 10) from pk_mul _ 10, show nI (t.getD j 0) - (48 : Int32) = nI (t.getD j 0 - 48) from pk_sub (b := 48) h1.1, nI_add]
      rw [e, nI_1]
      exact ih (j + 1) (by omega)
  exact main t.length 0 (by omega)
theorem c_Tx_begins (hC : zCs G) (hd : 5 ≤ d) {L2 : List Nat} (h : zTx G L H a t) (h' : zTx G L2 H b u) (hL : zLi G H L) (hR : zRm G H 2 (u.length + 4)) : zC G d M_Tx_begins [.ref a, .ref b] H (zPi fun r H1 => r = (if t.take u.length = u then 1 else 0) ∧ zMo [] H H1 ∧ zUs 2 (u.length + 4) H H1) := by
  have hl := h.le
  have hlu := h'.le
  refine zC_in [some (.ref a), some (.ref b)] pn_Tx_begins hC.1 rfl (Nat.le_of_ble_eq_true rfl) rfl (fun ho => ?_)
  refine sTx_begins_0 (by omega) (Nat.le_of_ble_eq_true rfl) h.is (c_St_length hC (by omega) h) ?_
  rintro r H1 ⟨rfl, rfl⟩ - - -
  refine sTx_begins_4 (by omega) (Nat.le_of_ble_eq_true rfl) h'.is (c_St_length hC (by omega) h') ?_
  rintro r H1 ⟨rfl, rfl⟩ - - -
  refine sTx_begins_8 (fun e => sTx_begins_31 rfl ⟨_, rfl, ?_, zMo.rf, zUs.rf⟩) (fun e => ?_)
  · have := (nI_ltI (by omega) (by omega)).mp e
    rw [if_neg]
    intro z
    have z2 := congrArg List.length z
    rw [List.length_take] at z2
    omega
  · have hge : u.length ≤ t.length := by
      rcases Nat.lt_or_ge t.length u.length with q | q
      · exact absurd (nI_lt q (by omega)) e
      · exact q
    refine sTx_begins_11 zRf_ref (by omega) (Nat.le_of_ble_eq_true rfl) h'.is (c_St_length hC (by omega) h') ?_
    rintro r H1 ⟨rfl, rfl⟩ - - -
    refine sTx_begins_17 (by omega) (Nat.le_of_ble_eq_true rfl) h.is (c_St_substring hC (by omega) h (i := 0) (k := u.length) (Nat.zero_le _) hge hL (by rw [Nat.sub_zero]; exact hR)) ?_
    rintro r H2 - ⟨c, rfl, h2, m2, u2⟩ ho2 - -
    rw [List.drop_zero, Nat.sub_zero] at h2
    rw [Nat.sub_zero] at u2
    refine sTx_begins_20 zRf_ref (by omega) (Nat.le_of_ble_eq_true rfl) h2.is (c_St_equals hC (by omega) h2 (h'.ex m2)) ?_
    rintro r H3 ⟨rfl, rfl⟩ - - -
    by_cases q : t.take u.length = u
    · rw [if_pos q]
      exact sTx_begins_24 (fun z => absurd z (by decide)) (fun _ => sTx_begins_27 rfl ⟨_, rfl, rfl, m2, u2⟩)
    · rw [if_neg q]
      exact sTx_begins_24 (fun _ => sTx_begins_31 rfl ⟨_, rfl, rfl, m2, u2⟩) (fun z => absurd rfl z)
end KT
