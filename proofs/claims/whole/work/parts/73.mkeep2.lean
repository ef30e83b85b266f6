section MY
variable {G : zG} {d : Nat} {ad : Nat → Nat} {μ : zMm} {n g clk : Nat} {α : zAn} {ks : List zKe}
theorem kI.fix {μ μ' : zMm} {s : Nat} (h : kI μ μ' s) (hs : s < 8) : mFm [26, 27] [17, 18, 23, 24, 28, 29] kRw μ μ' ∧ ∀ i, i < 12 → mSm μ μ' i := by
  refine ⟨h.2.2.mono (fun _ z => z) (fun _ z => z) (fun k z => ?_), fun i hi => h.1 i (by omega)⟩
  simp only [List.mem_cons, List.not_mem_nil, or_false] at z ⊢
  omega
/-- the place in the list of what is at a place of the model -/
theorem kp_fi {L : List (Nat × Nat × zKe)} {p : List Nat} (hp : (L.map (fun e => e.2.2)).Pairwise (fun a b => zPl a.1.1 ≠ zPl b.1.1)) {i : Nat} (hi : i < L.length) (he : zPl L[i].2.2.1.1 = p) : zFi (zKsp p) (L.map (fun e => e.2.2)) = i := by
  rw [List.pairwise_iff_getElem] at hp
  refine fi_eq (by rw [List.length_map]; omega) (fun j hj hji => ?_) (fun h => ?_)
  · have := hp j i hj (by rw [List.length_map]; exact hi) hji
    simp only [List.getElem_map] at this ⊢
    unfold zKsp
    exact beq_eq_false_iff_ne.mpr (fun z => this (z.trans he.symm))
  · simp only [List.getElem_map]
    unfold zKsp
    exact beq_iff_eq.mpr he
theorem mc_keep (hC : zCs G) (hd : 2 ≤ d) (hK : rK μ n ks) (hn : n < 2 ^ 29) (hl : ks.length ≤ 8) (hp : ks.Pairwise (fun a b => zPl a.1.1 ≠ zPl b.1.1)) (hw : ∀ k ∈ ks, zAnW k.1 ∧ 1 ≤ k.2) (hf : mPw μ 4 (zPl α.1)) (hg : g < 12) (hα : zAnW α) (hv : mSv μ g (6 + g) (46 + g) α) (h19 : μ.2 19 g = nI α.2.1) (h25 : μ.1 25 = nI clk) : mC G d ad M_Mo_keep [.ref (ad 50), .int (nI g)] μ (mPv fun μ' => rK μ' (n + 1) (zKput ks (α, clk + α.2.1)) ∧ mFm [26, 27] [17, 18, 23, 24, 28, 29] kRw μ μ' ∧ ∀ i, i < 12 → mSm μ μ' i) := by
  obtain ⟨L, kc, a1, a2, a3, a4, a5, a6, a7⟩ := hK
  have hLl : L.length = ks.length := by rw [← a1, List.length_map]
  have hLw : ∀ e ∈ L, zAnW e.2.2.1 := fun e he => (hw e.2.2 (by rw [← a1]; exact List.mem_map_of_mem he)).1
  have hrow : ∀ e ∈ L, mPw μ (18 + e.1) (zPl e.2.2.1.1) := fun e he => (a6 e he).2.2.1.1
  have a5' := List.pairwise_iff_getElem.mp a5
  -- the place of L[i] is used again
  have again : ∀ i (hi : i < L.length), zKput ks (α, clk + α.2.1) = ks.eraseIdx i ++ [(α, clk + α.2.1)] → ∀ o3 o4, mW G d ad M_Mo_keep 71 [some (.ref (ad 50)), some (.int (nI g)), some (.int (nI L[i].1)), o3, o4] [] μ (mPv fun μ' => rK μ' (n + 1) (zKput ks (α, clk + α.2.1)) ∧ mFm [26, 27] [17, 18, 23, 24, 28, 29] kRw μ μ' ∧ ∀ i, i < 12 → mSm μ μ' i) := by
    intro i hi hz o3 o4
    have hsl := (a6 L[i] (List.getElem_mem hi)).1
    refine sMo_keep_71 (fun _ => ?_) (fun z => absurd ((nI_eq (by omega) (by omega)).mp (show nI L[i].1 = nI ks.length by rw [← a2]; exact z)) (by omega))
    refine sMo_keep_89 ?_
    have K0 : kI μ (upd μ.1 26 (μ.1 26), μ.2) L[i].1 := kI.i (by decide)
    refine mw_store hC hd (μ := (upd μ.1 26 (μ.1 26), μ.2)) (N := ks.length) (kc := kc) (clk := clk) (α := α) (by omega) hf hg hα hv h19 ?_ ?_ ?_ (fun μ' k1 k2 k3 k4 => ?_)
    · dsimp only; rw [pk_un (by decide)]; exact h25
    · dsimp only; rw [pk_us]; exact a2
    · dsimp only; rw [pk_un (by decide)]; exact a3
    · have KK := K0.tr k1
      refine ⟨?_, KK.fix (by omega)⟩
      rw [hz, ← a1, ← er_map]
      refine rK.put (L0 := L.eraseIdx i) (N := ks.length) (s := L[i].1) (kc := kc) KK k2 k3 (by omega) (by rw [List.length_eraseIdx_of_lt hi]; omega) hl hsl (a5.sublist (List.eraseIdx_sublist _ _)) (fun e he => ?_) (fun q hq => ?_) k4
      · have hm : e ∈ L := (List.eraseIdx_sublist _ _).subset he
        obtain ⟨b1, b2, b3⟩ := a6 e hm
        refine ⟨b1, ?_, b2, b3, hLw e hm⟩
        rw [List.mem_eraseIdx_iff_getElem] at he
        obtain ⟨j, hj, hne, rfl⟩ := he
        rcases Nat.lt_or_ge j i with w | w
        · exact (a5' j i hj hi w).1
        · exact (a5' i j hi hj (by omega)).1.symm
      · obtain ⟨e, he, e1⟩ := a7 q hq
        rcases mem_er he hi with w | w
        · left; rw [← e1, w]
        · exact Or.inr ⟨e, w, e1⟩
  -- a new place
  have fresh : ks.length < 8 → zKput ks (α, clk + α.2.1) = ks ++ [(α, clk + α.2.1)] → ∀ o3 o4, mW G d ad M_Mo_keep 71 [some (.ref (ad 50)), some (.int (nI g)), some (.int (nI ks.length)), o3, o4] [] μ (mPv fun μ' => rK μ' (n + 1) (zKput ks (α, clk + α.2.1)) ∧ mFm [26, 27] [17, 18, 23, 24, 28, 29] kRw μ μ' ∧ ∀ i, i < 12 → mSm μ μ' i) := by
    intro h8 hz o3 o4
    refine sMo_keep_71 (fun z => absurd a2.symm z) (fun _ => ?_)
    refine sMo_keep_80 ?_
    have K0 : kI μ (upd μ.1 26 (μ.1 26 + nI 1), μ.2) ks.length := kI.i (by decide)
    refine mw_store hC hd (μ := (upd μ.1 26 (μ.1 26 + nI 1), μ.2)) (s := ks.length) (N := ks.length + 1) (kc := kc) (clk := clk) (α := α) (by omega) hf hg hα hv h19 ?_ ?_ ?_ (fun μ' k1 k2 k3 k4 => ?_)
    · dsimp only; rw [pk_un (by decide)]; exact h25
    · dsimp only; rw [pk_us, a2, nI_add]
    · dsimp only; rw [pk_un (by decide)]; exact a3
    · have KK := K0.tr k1
      refine ⟨?_, KK.fix (by omega)⟩
      rw [hz]
      conv => rw [← a1]
      refine rK.put (L0 := L) (N := ks.length + 1) (s := ks.length) (kc := kc) KK k2 k3 (by omega) (by omega) (by omega) (by omega) a5 (fun e he => ?_) (fun q hq => ?_) k4
      · obtain ⟨b1, b2, b3⟩ := a6 e he
        exact ⟨(by omega), (by omega), b2, b3, hLw e he⟩
      · by_cases w : q = ks.length
        · exact Or.inl w
        · exact Or.inr (a7 q (by omega))
  refine mC_in [some (.ref (ad 50)), some (.int (nI g)), none, none, none] pn_Mo_keep hC.1 rfl (Nat.le_of_ble_eq_true rfl) rfl ?_
  refine sMo_keep_0 ?_
  have main : ∀ m s, s + m = ks.length → (∀ e ∈ L, e.1 < s → ¬ zPl e.2.2.1.1 = zPl α.1) → mW G d ad M_Mo_keep 2 [some (.ref (ad 50)), some (.int (nI g)), some (.int (nI s)), none, none] [] μ (mPv fun μ' => rK μ' (n + 1) (zKput ks (α, clk + α.2.1)) ∧ mFm [26, 27] [17, 18, 23, 24, 28, 29] kRw μ μ' ∧ ∀ i, i < 12 → mSm μ μ' i) := by
    intro m
    induction m with
    | zero =>
      intro s hs hno
      rw [show s = ks.length by omega] at hno ⊢
      have nofi : ¬ zFi (zKsp (zPl α.1)) ks < ks.length := fun w => by
        have h1 := fi_at w
        have hiL : zFi (zKsp (zPl α.1)) ks < L.length := (by omega)
        have h2 : ks[zFi (zKsp (zPl α.1)) ks] = L[zFi (zKsp (zPl α.1)) ks].2.2 := by simp only [← a1, List.getElem_map]
        rw [h2] at h1
        exact hno L[zFi (zKsp (zPl α.1)) ks] (List.getElem_mem _) (a6 _ (List.getElem_mem _)).1 (eq_of_beq h1)
      refine sMo_keep_2 (fun _ => ?_) (fun z => absurd (show μ.1 26 ≤ nI ks.length by rw [a2]; exact nI_le (Nat.le_refl _) (by omega)) z)
      by_cases h8 : ks.length = 8
      · have hz : zKput ks (α, clk + α.2.1) = ks.eraseIdx 0 ++ [(α, clk + α.2.1)] := by
          unfold zKput
          rw [if_neg nofi, if_pos (by omega)]
        refine sMo_keep_28 (fun z => absurd (by rw [h8]) z) (fun _ => ?_)
        refine sMo_keep_34 ?_
        have h0 : 0 < L.length := (by omega)
        have when : ∀ e ∈ L, μ.2 29 e.1 = nI e.2.1 := fun e he => (a6 e he).2.2.2.2
        -- the least
        have least : ∀ m j (e : Nat × Nat × zKe), j + m = 8 → e ∈ L → e.1 < j → (∀ e' ∈ L, e'.1 < j → e.2.1 ≤ e'.2.1) → mW G d ad M_Mo_keep 38 [some (.ref (ad 50)), some (.int (nI g)), some (.int (nI e.1)), some (.int (nI j)), none] [] μ (mPv fun μ' => rK μ' (n + 1) (zKput ks (α, clk + α.2.1)) ∧ mFm [26, 27] [17, 18, 23, 24, 28, 29] kRw μ μ' ∧ ∀ i, i < 12 → mSm μ μ' i) := by
          intro m
          induction m with
          | zero =>
            intro j e hj he hej hle
            refine sMo_keep_38 (fun _ => ?_) (fun z => absurd (nI_le (by omega) (by omega)) z)
            have hle0 := hle L[0] (List.getElem_mem h0) (by have := (a6 L[0] (List.getElem_mem h0)).1; omega)
            obtain ⟨i, hi, rfl⟩ := List.getElem_of_mem he
            have hi0 : i = 0 := by
              rcases Nat.eq_zero_or_pos i with w | w
              · exact w
              · have := (a5' 0 i h0 hi w).2
                omega
            subst hi0
            exact again 0 h0 hz _ _
          | succ m ih =>
            intro j e hj he hej hle
            refine sMo_keep_38 (fun z => absurd z (nI_ge (by omega) (by omega))) (fun _ => ?_)
            obtain ⟨e', he', ee⟩ := a7 j (by omega)
            have w1 := when e he
            have w2 := when e' he'
            have c1 := (a6 e he).2.1
            have c2 := (a6 e' he').2.1
            rw [ee] at w2
            have uniq : ∀ e2 ∈ L, e2.1 = j → e2 = e' := fun e2 h2 q => by
              obtain ⟨i1, hi1, rfl⟩ := List.getElem_of_mem h2
              obtain ⟨i2, hi2, rfl⟩ := List.getElem_of_mem he'
              rcases Nat.lt_trichotomy i1 i2 with w | w | w
              · exact absurd (q.trans ee.symm) (a5' i1 i2 hi1 hi2 w).1
              · subst w; rfl
              · exact absurd (ee.trans q.symm) (a5' i2 i1 hi2 hi1 w).1
            refine sMo_keep_44 (i1 := j) rfl (by rw [ml_29]; omega) (i2 := e.1) rfl (by rw [ml_29]; omega) (fun z => ?_) (fun z => ?_)
            · rw [w1, w2] at z
              have hz2 := (nI_leI (by omega) (by omega)).mp z
              refine sMo_keep_63 ?_
              rw [nI_add]
              refine ih (j + 1) e (by omega) he (by omega) (fun e2 h2 q => ?_)
              by_cases w : e2.1 = j
              · rw [uniq e2 h2 w]; exact hz2
              · exact hle e2 h2 (by omega)
            · rw [w1, w2] at z
              have hz2 : e'.2.1 < e.2.1 := Nat.not_le.mp (fun w => z (nI_le w (by omega)))
              refine sMo_keep_59 ?_
              rw [nI_add]
              have := ih (j + 1) e' (by omega) he' (by omega) (fun e2 h2 q => ?_)
              · rw [ee] at this
                exact this
              · by_cases w : e2.1 = j
                · rw [uniq e2 h2 w]; exact Nat.le_refl _
                · have := hle e2 h2 (by omega)
                  omega
        obtain ⟨e0, he0, ee0⟩ := a7 0 (by omega)
        have := least 7 1 e0 (by omega) he0 (by omega) (fun e' he' q => ?_)
        · rw [ee0] at this
          exact this
        · obtain ⟨i1, hi1, rfl⟩ := List.getElem_of_mem he'
          obtain ⟨i2, hi2, rfl⟩ := List.getElem_of_mem he0
          rcases Nat.lt_trichotomy i1 i2 with w | w | w
          · exact absurd (show L[i1].1 = L[i2].1 by omega) (a5' i1 i2 hi1 hi2 w).1
          · subst w; exact Nat.le_refl _
          · exact absurd (show L[i2].1 = L[i1].1 by omega) (a5' i2 i1 hi2 hi1 w).1
      · refine sMo_keep_28 (fun _ => fresh (by omega) ?_ _ _) (fun z => absurd ((nI_eq (by omega) (by omega)).mp z) h8)
        unfold zKput
        rw [if_neg nofi, if_neg (by omega)]
    | succ m ih =>
      intro s hs hno
      obtain ⟨e, he, e1⟩ := a7 s (by omega)
      refine sMo_keep_2 (fun z => absurd (show nI ks.length ≤ nI s by rw [← a2]; exact z) (nI_ge (by omega) (by omega))) (fun _ => ?_)
      have hr := hrow e he
      rw [e1] at hr
      refine sMo_keep_10 (by omega) (Nat.le_of_ble_eq_true rfl) (by rw [nI_add]; exact mc_alike hC (by omega) (a := 18 + s) (b := 4) (by omega) (by decide) hr hf) ?_
      rintro r μ1 ⟨rfl, rfl⟩
      by_cases q : zPl e.2.2.1.1 = zPl α.1
      · rw [beq_iff_eq.mpr q]
        refine sMo_keep_19 (fun _ => ?_) (fun z => absurd z (by decide))
        refine sMo_keep_28 (fun _ => ?_) (fun z => absurd ((nI_eq (by omega) (by omega)).mp z) (by omega))
        obtain ⟨i, hi, rfl⟩ := List.getElem_of_mem he
        have hp' := hp
        rw [← a1] at hp'
        have hfi := kp_fi hp' hi q
        rw [a1] at hfi
        have hz : zKput ks (α, clk + α.2.1) = ks.eraseIdx i ++ [(α, clk + α.2.1)] := by
          unfold zKput
          show (if zFi (zKsp (zPl α.1)) ks < ks.length then ks.eraseIdx (zFi (zKsp (zPl α.1)) ks) ++ [(α, clk + α.2.1)] else _) = _
          rw [hfi, if_pos (by omega)]
        have := again i hi hz none none
        rw [e1] at this
        exact this
      · rw [beq_eq_false_iff_ne.mpr q]
        refine sMo_keep_19 (fun z => absurd (by decide) z) (fun _ => ?_)
        refine sMo_keep_22 ?_
        rw [nI_add]
        refine ih (s + 1) (by omega) (fun e2 h2 w => ?_)
        by_cases w2 : e2.1 = s
        · have : e2 = e := by
            obtain ⟨i1, hi1, rfl⟩ := List.getElem_of_mem h2
            obtain ⟨i2, hi2, rfl⟩ := List.getElem_of_mem he
            rcases Nat.lt_trichotomy i1 i2 with w | w | w
            · exact absurd (w2.trans e1.symm) (a5' i1 i2 hi1 hi2 w).1
            · subst w; rfl
            · exact absurd (e1.trans w2.symm) (a5' i2 i1 hi2 hi1 w).1
          rw [this]; exact q
        · exact hno e2 h2 (by omega)
  exact main ks.length 0 (by omega) (fun e _ h0 => absurd h0 (Nat.not_lt_zero _))
end MY
