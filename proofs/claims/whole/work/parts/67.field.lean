theorem pre_eq {x lit : List Nat} (h61 : 61 ∉ lit) : x.take (lit.length + 1) = lit ++ [61] ↔ zTw (zNo 61) x = lit.length ∧ lit.length < x.length ∧ x.take lit.length = lit := by
  constructor
  · intro h
    have hl : lit.length + 1 ≤ x.length := take_len h (by rw [List.length_append]; rfl)
    have hx : x = lit ++ (61 :: x.drop (lit.length + 1)) := by
      conv => lhs; rw [← List.take_append_drop (lit.length + 1) x, h]
      rw [List.append_assoc]; rfl
    refine ⟨?_, by omega, ?_⟩
    · rw [hx]
      exact tw_app (fun a ha => zNo_iff.mpr (fun e => h61 (e ▸ ha))) (Or.inr ⟨61, _, rfl, by decide⟩)
    · conv => lhs; rw [hx]
      exact List.take_left
  · rintro ⟨h1, h2, h3⟩
    rw [take_s h2, h3]
    have := tw_end (zNo 61) x (by omega)
    rw [h1] at this
    rw [zNo_f.mp this]
/-- the FIELDS in the model's memory -/
def mNew (μ : zMm) (F : zFe) : Prop := μ.1 38 = (match F.1 with
  | none => -1
  | some n => nI n) ∧ μ.1 39 = nI F.2.1.1.length ∧ (F.2.1.1 ≠ [] → μ.1 40 = nI F.2.1.2.length ∧ mN (μ.2 43) 0 F.2.1.1 ∧ mN (μ.2 43) 8 F.2.1.2) ∧ μ.1 41 = zB1 F.2.2.1.isSome ∧ (∀ b, F.2.2.1 = some b → mPw μ 4 (zPl b) ∧ μ.2 8 4 = nI 0) ∧ μ.1 42 = zB1 F.2.2.2
def zFp (μ : zMm) (x : List Nat) (A : zA) (F : zFe) (r : Int32) (μ' : zMm) : Prop := (zField x A F = none → r = 0) ∧ (∀ F', zField x A F = some F' → r = 1 ∧ mNew μ' F') ∧ mFm [12, 14, 15, 38, 39, 40, 41, 42] [9, 10, 11, 43] [0, 4] μ μ'
theorem zFp.no {μ μ' : zMm} {x : List Nat} {A : zA} {F : zFe} (h : zField x A F = none) (f : mFm [12, 14, 15, 38, 39, 40, 41, 42] [9, 10, 11, 43] [0, 4] μ μ') : zFp μ x A F (nI 0) μ' := ⟨fun _ => by decide, (fun F' h' => by rw [h] at h'; cases h'), f⟩
theorem zFp.yes {μ μ' : zMm} {x : List Nat} {A : zA} {F F' : zFe} (h : zField x A F = some F') (hn : mNew μ' F') (f : mFm [12, 14, 15, 38, 39, 40, 41, 42] [9, 10, 11, 43] [0, 4] μ μ') : zFp μ x A F (nI 1) μ' := ⟨(fun h' => by rw [h] at h'; cases h'), (fun F2 h' => by rw [h] at h'; cases h'; exact ⟨by decide, hn⟩), f⟩
/-- a COOKIE's name and colon, as both find them -/
theorem ck_eq {y : List Nat} : (1 ≤ zNr y ∧ zNr y < y.length ∧ y.getD (zNr y) 0 = 58 → zTw (zNo 58) y = zNr y ∧ zNm (y.take (zNr y)) = true) ∧ (zTw (zNo 58) y < y.length ∧ zNm (y.take (zTw (zNo 58) y)) = true → zNr y = zTw (zNo 58) y ∧ 1 ≤ zNr y ∧ y.getD (zNr y) 0 = 58) := by
  constructor
  · rintro ⟨h1, h2, h3⟩
    rcases zNr_tw (m := y) with ⟨k1, k2⟩ | ⟨k1, k2, k3, k4⟩
    · omega
    · have sp := tw_split (p := zNc) (t := y)
      rw [← k1] at sp k4
      refine ⟨?_, k4⟩
      apply tw_eq
      · omega
      · intro j hj
        apply zNo_iff.mpr
        intro e
        have := tw_at zNc y j (by omega)
        rw [e] at this
        exact absurd this (by decide)
      · intro _
        rw [h3]; decide
  · rintro ⟨h1, h2⟩
    have ha := (zNm_all h2).2.2
    have hl : (y.take (zTw (zNo 58) y)).length = zTw (zNo 58) y := by rw [List.length_take]; omega
    have h58 := zNo_f.mp (tw_end (zNo 58) y h1)
    have htw : zTw zNc y = zTw (zNo 58) y := by
      apply tw_eq
      · omega
      · intro j hj
        have := getD_all ha (i := j) (by omega)
        rw [getD_take hj] at this
        exact this
      · intro _
        rw [h58]; decide
    rcases zNr_tw (m := y) with ⟨k1, k2⟩ | ⟨k1, k2, k3, k4⟩
    · rw [htw, h2] at k2
      cases k2
    · rw [htw] at k1
      exact ⟨k1, by omega, by rw [k1]; exact h58⟩
section MH
variable {G : zG} {d : Nat} {ad : Nat → Nat} {μ : zMm} {t : List Nat} {fr to : Nat} {A : zA} {F : zFe}
theorem mc_field (hC : zCs G) (hd : 8 ≤ d) (ht : mN (μ.2 2) 0 t) (hlo : zLo t) (htl : t.length ≤ 2000) (hft : fr ≤ to) (hto : to ≤ t.length) (hA : mPw μ 3 (zPl A)) (hw : zWf A) (hN : mNew μ F) (hF : zFeW F) : mC G d ad M_Mo_field [.ref (ad 50), .int (nI fr), .int (nI to)] μ (mPi fun r μ' => zFp μ (zSli t fr to) A F r μ') := by
  have at' : ∀ {μ1 : zMm}, mN (μ1.2 2) 0 t → ∀ i, i < t.length → μ1.2 2 i = nI (t.getD i 0) := fun h i hi => by have := h i hi; rw [Nat.zero_add] at this; exact this
  have hul := sli_len (t := t) (a := fr) hto
  have gu : ∀ j, j < to - fr → (zSli t fr to).getD j 0 = t.getD (fr + j) 0 := fun j hj => sli_get hj
  have hulo : zLo (zSli t fr to) := sli_lo hlo
  obtain ⟨n1, n2, n3, n4, n5, n6⟩ := id hN
  -- calls of isWord: a long goes with it
  have word : ∀ (pc idx : Nat) (w : Int64) (cs : List Nat) (a b : Nat) (lv : List (Option Value)) (P : Option Value → zMm → Prop), decode M_Mo_field.2.1 pc = .ok (.ldc2_w idx, 3) → decode M_Mo_field.2.1 (pc + 3) = .ok (.invokestatic 116, 3) → Cond.constantLong "NetDeskModel" idx w ∈ lw_tbl → zCh w cs → zLo cs → a ≤ b → b ≤ t.length → mW G d ad M_Mo_field (pc + 3 + 3) lv [.int (zB1 (decide ((zSli t a b).take cs.length = cs)))] μ P → mW G d ad M_Mo_field pc lv [.int (nI b), .int (nI a), .ref (ad 2)] μ P := by
    intro pc idx w cs a b lv P hd1 hd2 hcl hch hcs hab hb kk H0 H hM hm hu
    refine zw_ldc2 hd1 hcl ?_
    refine zw_callS [.ref (ad 2), .int (nI a), .int (nI b), .long w] [] hd2 (by omega) zk_Mo_116 rfl rfl (Nat.le_of_ble_eq_true rfl) (mc_isWord hC ht hlo htl hab hb hch hcs H hM) ?_
    exact mPi_k (fun r μ1 hr => by
      obtain ⟨rfl, rfl⟩ := hr
      exact kk) hm hu
  have R0 : mFm [12, 14, 15, 38, 39, 40, 41, 42] [9, 10, 11, 43] [0, 4] μ μ := mFm.rf
  refine mC_in [some (.ref (ad 50)), some (.int (nI fr)), some (.int (nI to)), none, none, none, none, none] pn_Mo_field hC.1 rfl (Nat.le_of_ble_eq_true rfl) rfl ?_
  generalize hx : zSli t fr to = x at hul gu hulo
  -- no open
  have rest : ¬ x = [111, 112, 101, 110] → mW G d ad M_Mo_field 46 [some (.ref (ad 50)), some (.int (nI fr)), some (.int (nI to)), none, none, none, none, none] [] μ (mPi fun r μ' => zFp μ x A F r μ') := by
    intro q1
    refine sMo_field_46 ?_
    have htw := tw_le (zNo 61) x
    -- behind the first =
    have aft : mW G d ad M_Mo_field 70 [some (.ref (ad 50)), some (.int (nI fr)), some (.int (nI to)), some (.int (nI (fr + zTw (zNo 61) x))), none, none, none, none] [] μ (mPi fun r μ' => zFp μ x A F r μ') := by
      by_cases hend : zTw (zNo 61) x < x.length
      · refine sMo_field_70 (fun _ => ?_) (fun z => absurd ((nI_eq (by omega) (by omega)).mp z) (by omega))
        have h61 := zNo_f.mp (tw_end (zNo 61) x hend)
        have en : nI (fr + zTw (zNo 61) x) - nI fr = nI (zTw (zNo 61) x) := by rw [pk_sub (by omega)]; congr 1; omega
        have esl : ∀ k, zTw (zNo 61) x = k → zSli t fr (fr + k) = x.take k := fun k hk => by rw [← hx, ← sli_take (b := to) (by omega)]
        -- to=
        have to3 : ¬ x.take 4 = [97, 103, 101, 61] → ¬ x.take 7 = [99, 111, 111, 107, 105, 101, 61] → mW G d ad M_Mo_field 423 [some (.ref (ad 50)), some (.int (nI fr)), some (.int (nI to)), some (.int (nI (fr + zTw (zNo 61) x))), some (.int (nI (zTw (zNo 61) x))), none, none, none] [] μ (mPi fun r μ' => zFp μ x A F r μ') := by
          intro q2 q3
          have pe := pre_eq (x := x) (lit := [116, 111]) (by decide)
          have none' : ¬ x.take 3 = [116, 111, 61] → mW G d ad M_Mo_field 489 [some (.ref (ad 50)), some (.int (nI fr)), some (.int (nI to)), some (.int (nI (fr + zTw (zNo 61) x))), some (.int (nI (zTw (zNo 61) x))), none, none, none] [] μ (mPi fun r μ' => zFp μ x A F r μ') := fun q4 => sMo_field_489 rfl ⟨_, rfl, zFp.no (zField_5 q1 q2 q3 q4) R0⟩
          refine sMo_field_423 (fun z => none' (fun w => z (by rw [(pe.mp w).1]; rfl))) (fun z => ?_)
          have hk := (nI_eq (by omega) (by omega)).mp z
          refine sMo_field_429 ?_
          refine word 435 139 500 [116, 111] fr (fr + zTw (zNo 61) x) _ _ dMo_field_435 dMo_field_438 zcl_139 zCh_to (by intro c hc; simp at hc; omega) (by omega) (by omega) ?_
          rw [esl _ rfl, hk]
          have htt : (x.take 2).take ([116, 111] : List Nat).length = x.take 2 := by rw [List.take_take]; rfl
          rw [htt]
          by_cases q4 : x.take 3 = [116, 111, 61]
          · have e := zField_4 (A := A) (F := F) q1 q2 q3 q4
            have h2 : x.take 2 = [116, 111] := (pe.mp q4).2.2
            rw [decide_eq_true h2]
            refine sMo_field_441 (fun z => absurd z (by decide)) (fun _ => ?_)
            cases hT : F.2.2.1 with
            | some b0 =>
              rw [hT] at e n4
              refine sMo_field_444 (fun _ => sMo_field_467 rfl ⟨_, rfl, zFp.no e R0⟩) (fun z => absurd (show (0 : Int32) < μ.1 41 by rw [n4]; exact (by decide : (0 : Int32) < zB1 true)) z)
            | none =>
              rw [hT] at e n4
              refine sMo_field_444 (fun z => absurd (show (0 : Int32) < zB1 (none : Option zA).isSome by rw [← n4]; exact z) (by decide)) (fun _ => ?_)
              have hsl : zSli t (fr + 2 + 1) to = x.drop 3 := by rw [show fr + 2 + 1 = fr + 3 by omega, ← sli_drop, hx]
              refine sMo_field_451 (by omega) (Nat.le_of_ble_eq_true rfl) (by rw [nI_add]; exact mc_refer hC (by omega) ht hlo htl (by omega) hto (by decide) (by decide) hA hw) ?_
              rw [hsl]
              rintro r μ1 ⟨k1, k2, k3⟩
              have R1 : mFm [12, 14, 15, 38, 39, 40, 41, 42] [9, 10, 11, 43] [0, 4] μ μ1 := k3.mono (fun k z => by revert z; simp only [List.mem_cons, List.not_mem_nil, or_false]; omega) (fun k z => by revert z; simp only [List.mem_cons, List.not_mem_nil, or_false]; omega) (fun k z => by revert z; simp only [List.mem_cons, List.not_mem_nil, or_false]; omega)
              cases hz : zRead (x.drop 3) A with
              | none =>
                have := k1 hz
                subst this
                rw [hz] at e
                exact sMo_field_464 (fun z => absurd rfl z) (fun _ => sMo_field_467 rfl ⟨_, rfl, zFp.no e R1⟩)
              | some B =>
                obtain ⟨rfl, k4, k5⟩ := k2 B hz
                rw [hz] at e
                refine sMo_field_464 (fun _ => ?_) (fun z => absurd z (by decide))
                refine sMo_field_469 ?_
                refine sMo_field_474 (by omega) (Nat.le_of_ble_eq_true rfl) (mc_copyRow hC (to := 4) (fr := 0) (by decide) (by decide) (by decide)) ?_
                rintro μ2 ⟨g1, g2, g3⟩
                refine sMo_field_480 (i := 4) rfl (by rw [ml_8]; omega) ?_
                have R2 : mFm [12, 14, 15, 38, 39, 40, 41, 42] [9, 10, 11, 43] [0, 4] μ μ2 := (R1.pi (k := 41) (v := nI 1) (by decide)).tr (g1.mono (fun _ z => by cases z) (fun _ z => by cases z) (fun k z => by rw [List.mem_singleton.mp z]; decide))
                have hp4 : mPw μ2 4 (zPl B) := g2 _ k4.1
                have u41 : ∀ k, k ≠ 41 → μ2.1 k = μ1.1 k := fun k hk => (g1.1 k List.not_mem_nil).trans (by dsimp only; exact pk_un hk)
                refine sMo_field_487 rfl ⟨_, rfl, zFp.yes e ⟨?_, ?_, fun hne => ?_, ?_, fun b hb => ?_, ?_⟩ (R2.p8 (by decide))⟩
                · exact (u41 38 (by decide)).trans (((k3.1 38 (by decide)).trans n1))
                · exact (u41 39 (by decide)).trans (((k3.1 39 (by decide)).trans n2))
                · obtain ⟨m1, m2, m3⟩ := n3 hne
                  have e43 : (μ2.1, updA μ2.2 8 4 (nI 0)).2 43 = μ.2 43 := by
                    dsimp only
                    rw [updA_n (by decide), g1.2.1 43 List.not_mem_nil (by decide) (by decide) (by decide)]
                    exact k3.2.1 43 (by decide) (by decide) (by decide) (by decide)
                  refine ⟨(u41 40 (by decide)).trans (((k3.1 40 (by decide)).trans m1)), ?_, ?_⟩
                  · rw [e43]; exact m2
                  · rw [e43]; exact m3
                · exact (g1.1 41 List.not_mem_nil).trans (by dsimp only; rw [pk_us]; exact zB1_t.symm)
                · cases hb
                  refine ⟨⟨?_, fun j hj => ?_, hp4.2.2⟩, ?_⟩
                  · dsimp only
                    rw [updA_n (by decide)]; exact hp4.1
                  · dsimp only
                    rw [updA_n (by decide)]; exact hp4.2.1 j hj
                  · dsimp only
                    rw [updA_s, pk_us]
                · exact (u41 42 (by decide)).trans (((k3.1 42 (by decide)).trans n6))
          · have h2 : ¬ x.take 2 = [116, 111] := fun w => q4 (pe.mpr ⟨hk, by rw [hk] at hend; exact hend, w⟩)
            rw [decide_eq_false h2]
            refine sMo_field_441 (fun _ => ?_) (fun z => absurd (by decide) z)
            have := none' q4
            rw [hk] at this
            exact this
        -- cookie=
        have ck : ¬ x.take 4 = [97, 103, 101, 61] → mW G d ad M_Mo_field 223 [some (.ref (ad 50)), some (.int (nI fr)), some (.int (nI to)), some (.int (nI (fr + zTw (zNo 61) x))), some (.int (nI (zTw (zNo 61) x))), none, none, none] [] μ (mPi fun r μ' => zFp μ x A F r μ') := by
          intro q2
          have pe := pre_eq (x := x) (lit := [99, 111, 111, 107, 105, 101]) (by decide)
          refine sMo_field_223 (fun z => to3 q2 (fun w => z (by rw [(pe.mp w).1]; rfl))) (fun z => ?_)
          have hk := (nI_eq (by omega) (by omega)).mp z
          refine sMo_field_230 ?_
          refine word 236 128 177585635 [99, 111, 111, 107, 105, 101] fr (fr + zTw (zNo 61) x) _ _ dMo_field_236 dMo_field_239 zcl_128 zCh_cookie (by intro c hc; simp at hc; omega) (by omega) (by omega) ?_
          rw [esl _ rfl, hk]
          have htt : (x.take 6).take ([99, 111, 111, 107, 105, 101] : List Nat).length = x.take 6 := by rw [List.take_take]; rfl
          rw [htt]
          by_cases q3 : x.take 7 = [99, 111, 111, 107, 105, 101, 61]
          · have e := zField_3 (A := A) (F := F) q1 q2 q3
            have h2 : x.take 6 = [99, 111, 111, 107, 105, 101] := (pe.mp q3).2.2
            rw [decide_eq_true h2]
            refine sMo_field_242 (fun z => absurd z (by decide)) (fun _ => ?_)
            have hsl : zSli t (fr + 6 + 1) to = x.drop 7 := by rw [show fr + 6 + 1 = fr + 7 by omega, ← sli_drop, hx]
            have hyl : (x.drop 7).length = x.length - 7 := List.length_drop
            have hylo : zLo (x.drop 7) := fun c hc => hulo c (List.mem_of_mem_drop hc)
            rw [hk] at hend
            refine sMo_field_245 (by omega) (Nat.le_of_ble_eq_true rfl) (by rw [nI_add]; exact mc_nameEnd hC (by omega) mk_2 ht hlo (by rw [ml_2]; omega) (a := fr + 6 + 1) (by omega) hto) ?_
            rw [hsl]
            rintro r μ1 ⟨rfl, rfl⟩
            have gy : ∀ j, j < (x.drop 7).length → t.getD (fr + 6 + 1 + j) 0 = (x.drop 7).getD j 0 := fun j hj => by
              rw [getD_drop, gu _ (by omega)]; congr 1; omega
            generalize hy : x.drop 7 = y at e hyl hylo gy
            have hce := ck_eq (y := y)
            have hnl : zNr y ≤ y.length ∧ zNr y ≤ 8 := by
              rcases zNr_tw (m := y) with ⟨w1, w2⟩ | ⟨w1, w2, w3, w4⟩
              · omega
              · have := tw_le zNc y; omega
            have bad : ¬ (F.2.1.1 = [] ∧ zTw (zNo 58) y < y.length ∧ zNm (y.take (zTw (zNo 58) y)) = true ∧ zNm (y.drop (zTw (zNo 58) y + 1)) = true) → ∀ o5 o6, mW G d ad M_Mo_field 291 [some (.ref (ad 50)), some (.int (nI fr)), some (.int (nI to)), some (.int (nI (fr + 6))), some (.int (nI 6)), o5, o6, none] [] μ1 (mPi fun r μ' => zFp μ1 x A F r μ') := fun hb o5 o6 => sMo_field_291 rfl ⟨_, rfl, zFp.no (by rw [e, if_neg hb]) mFm.rf⟩
            by_cases hn0 : zNr y = 0
            · rw [hn0, Nat.add_zero]
              exact sMo_field_256 (fun _ => bad (fun w => by have := (hce.2 ⟨w.2.1, w.2.2.1⟩).2.1; omega) _ _) (fun z => absurd (by rw [nI_add]) z)
            · refine sMo_field_256 (fun z => by rw [nI_add] at z; exact absurd ((nI_eq (by omega) (by omega)).mp z) (by omega)) (fun _ => ?_)
              by_cases hlt : zNr y < y.length
              · refine sMo_field_266 (fun z => absurd z (nI_ge (by omega) (by omega))) (fun _ => ?_)
                have hcl := hylo.at (zNr y)
                refine sMo_field_272 (i1 := fr + 6 + 1 + zNr y) rfl (by rw [ml_2]; omega) (fun z => ?_) (fun z => ?_)
                · rw [at' ht _ (by omega), gy _ hlt] at z
                  refine bad (fun w => ?_) _ _
                  have := hce.2 ⟨w.2.1, w.2.2.1⟩
                  exact z (by rw [this.2.2])
                · rw [at' ht _ (by omega), gy _ hlt] at z
                  have h58 := (nI_eq (by omega) (by omega)).mp z
                  obtain ⟨hk58, hnm1⟩ := hce.1 ⟨(by omega), hlt, h58⟩
                  by_cases hnm0 : F.2.1.1 = []
                  · have h39 : μ1.1 39 ≤ 0 := by rw [n2, hnm0]; decide
                    refine sMo_field_284 (fun _ => ?_) (fun z => absurd h39 z)
                    have hsl2 : zSli t (fr + 6 + 1 + zNr y + 1) to = y.drop (zNr y + 1) := by
                      rw [show fr + 6 + 1 + zNr y + 1 = fr + 6 + 1 + (zNr y + 1) by omega, ← sli_drop, hsl, hy]
                    refine sMo_field_293 (by omega) (Nat.le_of_ble_eq_true rfl) (by rw [nI_add]; exact mc_nameEnd hC (by omega) mk_2 ht hlo (by rw [ml_2]; omega) (a := fr + 6 + 1 + zNr y + 1) (by omega) hto) ?_
                    rw [hsl2]
                    rintro r μ2 ⟨rfl, rfl⟩
                    have hvl : (y.drop (zNr y + 1)).length = y.length - (zNr y + 1) := List.length_drop
                    have hvlo : zLo (y.drop (zNr y + 1)) := fun c hc => hylo c (List.mem_of_mem_drop hc)
                    have gv : ∀ j, j < (y.drop (zNr y + 1)).length → t.getD (fr + 6 + 1 + zNr y + 1 + j) 0 = (y.drop (zNr y + 1)).getD j 0 := fun j hj => by
                      rw [getD_drop, ← gy _ (by omega)]; congr 1; omega
                    rw [hk58] at e
                    generalize hv : y.drop (zNr y + 1) = v at e hvl hvlo gv
                    have hvn : zNr v ≤ v.length ∧ zNr v ≤ 8 := by
                      rcases zNr_tw (m := v) with ⟨w1, w2⟩ | ⟨w1, w2, w3, w4⟩
                      · omega
                      · have := tw_le zNc v; omega
                    have bad2 : ¬ zNm v = true → ∀ o6, mW G d ad M_Mo_field 322 [some (.ref (ad 50)), some (.int (nI fr)), some (.int (nI to)), some (.int (nI (fr + 6))), some (.int (nI 6)), some (.int (nI (fr + 6 + 1 + zNr y))), o6, none] [] μ2 (mPi fun r μ' => zFp μ2 x A F r μ') := fun hb o6 => sMo_field_322 rfl ⟨_, rfl, zFp.no (by rw [e, if_neg (fun w => hb w.2.2.2)]) mFm.rf⟩
                    by_cases hv0 : zNr v = 0
                    · rw [hv0, Nat.add_zero]
                      refine sMo_field_305 (fun _ => bad2 (fun w => ?_) _) (fun z => absurd (by rw [nI_add]) z)
                      obtain ⟨w1, w2⟩ := zNm_nr.mp w
                      rw [hv0] at w2
                      exact w1 (List.length_eq_zero_iff.mp w2.symm)
                    · refine sMo_field_305 (fun z => by rw [nI_add] at z; exact absurd ((nI_eq (by omega) (by omega)).mp z) (by omega)) (fun _ => ?_)
                      by_cases hvall : zNr v = v.length
                      · have hnm2 : zNm v = true := zNm_nr.mpr ⟨fun w => hv0 (by rw [w]; rfl), hvall⟩
                        rw [if_pos ⟨hnm0, hlt, hnm1, hnm2⟩] at e
                        refine sMo_field_316 (fun _ => ?_) (fun z => absurd (by congr 1; omega) z)
                        have e39 : nI (fr + 6 + 1 + zNr y) - nI (fr + 6) - nI 1 = nI (zNr y) := by rw [pk_sub (by omega), pk_sub (by omega)]; congr 1; omega
                        have e40 : nI (fr + 6 + 1 + zNr y + 1 + zNr v) - nI (fr + 6 + 1 + zNr y) - nI 1 = nI (zNr v) := by rw [pk_sub (by omega), pk_sub (by omega)]; congr 1; omega
                        refine sMo_field_324 ?_
                        refine sMo_field_334 ?_
                        rw [e39, e40]
                        refine sMo_field_345 ?_
                        have ltk : (y.take (zNr y)).length = zNr y := by rw [List.length_take]; omega
                        -- the two copies
                        have loop2 : ∀ n j (μ3 : zMm), j + n = zNr v → mFm [12, 14, 15, 38, 39, 40, 41, 42] [9, 10, 11, 43] [0, 4] μ2 μ3 → (∀ k, k ≠ 39 → k ≠ 40 → μ3.1 k = μ2.1 k) → (∀ k, k ≠ 43 → μ3.2 k = μ2.2 k) → μ3.1 39 = nI (zNr y) → μ3.1 40 = nI (zNr v) → mN (μ3.2 43) 0 (y.take (zNr y)) → mN (μ3.2 43) 8 (v.take j) → mW G d ad M_Mo_field 384 [some (.ref (ad 50)), some (.int (nI fr)), some (.int (nI to)), some (.int (nI (fr + 6))), some (.int (nI 6)), some (.int (nI (fr + 6 + 1 + zNr y))), some (.int (nI (fr + 6 + 1 + zNr y + 1 + zNr v))), some (.int (nI j))] [] μ3 (mPi fun r μ' => zFp μ2 x A F r μ') := by
                          intro n
                          induction n with
                          | zero =>
                            intro j μ3 hj hF3 i1 i2 i3 i4 i5 i6
                            refine sMo_field_384 (fun _ => ?_) (fun z => absurd (show μ3.1 40 ≤ nI j by rw [i4]; exact nI_le (by omega) (by omega)) z)
                            rw [List.take_of_length_le (by omega)] at i6
                            refine sMo_field_421 rfl ⟨_, rfl, zFp.yes e ⟨(i1 38 (by decide) (by decide)).trans n1, ?_, fun _ => ⟨?_, i5, i6⟩, (i1 41 (by decide) (by decide)).trans n4, fun b hb => ?_, (i1 42 (by decide) (by decide)).trans n6⟩ hF3⟩
                            · show μ3.1 39 = nI (y.take (zNr y)).length
                              rw [ltk]; exact i3
                            · show μ3.1 40 = nI v.length
                              rw [← hvall]; exact i4
                            · obtain ⟨b1, b2⟩ := n5 b hb
                              refine ⟨⟨?_, fun j hj => ?_, b1.2.2⟩, ?_⟩
                              · rw [i2 7 (by decide)]; exact b1.1
                              · rw [i2 6 (by decide)]; exact b1.2.1 j hj
                              · rw [i2 8 (by decide)]; exact b2
                          | succ n ih =>
                            intro j μ3 hj hF3 i1 i2 i3 i4 i5 i6
                            refine sMo_field_384 (fun z => absurd (show nI (zNr v) ≤ nI j by rw [← i4]; exact z) (nI_ge (by omega) (by omega))) (fun _ => ?_)
                            refine sMo_field_393 (i1 := fr + 6 + 1 + zNr y + 1 + j) (by rw [nI_add, nI_add]) (by rw [ml_2]; omega) (i := 8 + j) (nI_add _ _) (by rw [ml_43]; omega) ?_
                            refine sMo_field_415 ?_
                            rw [nI_add, i2 2 (by decide), at' ht _ (by omega), gv j (by omega), n8 (hvlo.at j)]
                            refine ih (j + 1) _ (by omega) (hF3.pa (by decide) (by decide) (by decide) (by decide)) i1 (fun k hk => ?_) i3 i4 ?_ ?_
                            · dsimp only; rw [updA_n hk]; exact i2 k hk
                            · dsimp only
                              rw [updA_s]
                              intro q hq
                              rw [ltk] at hq
                              rw [pk_un (by omega)]; exact i5 q (by rw [ltk]; exact hq)
                            · dsimp only
                              have hl : (v.take j).length = j := by rw [List.length_take]; omega
                              rw [updA_s, take_s (by omega), mN_app]
                              refine ⟨fun q hq => ?_, fun q hq => ?_⟩
                              · rw [hl] at hq
                                rw [pk_un (by omega)]; exact i6 q (by rw [hl]; exact hq)
                              · simp only [List.length_cons, List.length_nil] at hq
                                rw [show q = 0 by omega, hl, Nat.add_zero, pk_us]; rfl
                        have loop1 : ∀ n j (μ3 : zMm), j + n = zNr y → mFm [12, 14, 15, 38, 39, 40, 41, 42] [9, 10, 11, 43] [0, 4] μ2 μ3 → (∀ k, k ≠ 39 → k ≠ 40 → μ3.1 k = μ2.1 k) → (∀ k, k ≠ 43 → μ3.2 k = μ2.2 k) → μ3.1 39 = nI (zNr y) → μ3.1 40 = nI (zNr v) → mN (μ3.2 43) 0 (y.take j) → mW G d ad M_Mo_field 348 [some (.ref (ad 50)), some (.int (nI fr)), some (.int (nI to)), some (.int (nI (fr + 6))), some (.int (nI 6)), some (.int (nI (fr + 6 + 1 + zNr y))), some (.int (nI (fr + 6 + 1 + zNr y + 1 + zNr v))), some (.int (nI j))] [] μ3 (mPi fun r μ' => zFp μ2 x A F r μ') := by
                          intro n
                          induction n with
                          | zero =>
                            intro j μ3 hj hF3 i1 i2 i3 i4 i5
                            refine sMo_field_348 (fun _ => ?_) (fun z => absurd (show μ3.1 39 ≤ nI j by rw [i3]; exact nI_le (by omega) (by omega)) z)
                            refine sMo_field_381 ?_
                            rw [show j = zNr y by omega] at i5
                            exact loop2 (zNr v) 0 μ3 (by omega) hF3 i1 i2 i3 i4 i5 (fun q hq => absurd hq (Nat.not_lt_zero _))
                          | succ n ih =>
                            intro j μ3 hj hF3 i1 i2 i3 i4 i5
                            refine sMo_field_348 (fun z => absurd (show nI (zNr y) ≤ nI j by rw [← i3]; exact z) (nI_ge (by omega) (by omega))) (fun _ => ?_)
                            refine sMo_field_357 (i1 := fr + 6 + 1 + j) (by rw [nI_add, nI_add]) (by rw [ml_2]; omega) (i := j) rfl (by rw [ml_43]; omega) ?_
                            refine sMo_field_375 ?_
                            rw [nI_add, i2 2 (by decide), at' ht _ (by omega), gy j (by omega), n8 (hylo.at j)]
                            refine ih (j + 1) _ (by omega) (hF3.pa (by decide) (by decide) (by decide) (by decide)) i1 (fun k hk => ?_) i3 i4 ?_
                            · dsimp only; rw [updA_n hk]; exact i2 k hk
                            · dsimp only
                              have hl : (y.take j).length = j := by rw [List.length_take]; omega
                              rw [updA_s, take_s (by omega), mN_app]
                              refine ⟨fun q hq => ?_, fun q hq => ?_⟩
                              · rw [hl] at hq
                                rw [pk_un (by omega)]; exact i5 q (by rw [hl]; exact hq)
                              · simp only [List.length_cons, List.length_nil] at hq
                                rw [show q = 0 by omega, hl, Nat.add_zero, Nat.zero_add, pk_us]; rfl
                        refine loop1 (zNr y) 0 _ (by omega) ((mFm.rf.pi (by decide)).pi (by decide)) (fun k k1 k2 => ?_) (fun _ _ => rfl) ?_ ?_ (fun q hq => absurd hq (Nat.not_lt_zero _))
                        · dsimp only; rw [pk_un k2, pk_un k1]
                        · dsimp only; rw [pk_un (by decide), pk_us]
                        · dsimp only; rw [pk_us]
                      · refine sMo_field_316 (fun z => absurd ((nI_eq (by omega) (by omega)).mp z) (by omega)) (fun _ => bad2 (fun w => hvall (zNm_nr.mp w).2) _)
                  · have hpos : 1 ≤ F.2.1.1.length := List.length_pos_iff.mpr hnm0
                    have hle8 : F.2.1.1.length ≤ 8 := by
                      rcases hF.2.1 with w | w
                      · exact absurd w.1 hnm0
                      · exact (zNm_all w.1).2.1
                    refine sMo_field_284 (fun z => absurd (show nI F.2.1.1.length ≤ 0 by rw [← n2]; exact z) (nI_nle (by omega) (by omega))) (fun _ => bad (fun w => hnm0 w.1) _ _)
              · refine sMo_field_266 (fun _ => bad (fun w => ?_) _ _) (fun z => absurd (nI_le (by omega) (by omega)) z)
                have := hce.2 ⟨w.2.1, w.2.2.1⟩
                omega
          · have h2 : ¬ x.take 6 = [99, 111, 111, 107, 105, 101] := fun w => q3 (pe.mpr ⟨hk, by rw [hk] at hend; exact hend, w⟩)
            rw [decide_eq_false h2]
            refine sMo_field_242 (fun _ => ?_) (fun z => absurd (by decide) z)
            have := to3 q2 q3
            rw [hk] at this
            exact this
        -- age=
        have pe := pre_eq (x := x) (lit := [97, 103, 101]) (by decide)
        refine sMo_field_77 (fun z => ?_) (fun z => ?_)
        · rw [en] at z ⊢
          exact ck (fun w => z (by rw [(pe.mp w).1]; rfl))
        · rw [en] at z ⊢
          have hk := (nI_eq (by omega) (by omega)).mp z
          refine sMo_field_88 ?_
          refine word 94 123 5345 [97, 103, 101] fr (fr + zTw (zNo 61) x) _ _ dMo_field_94 dMo_field_97 zcl_123 zCh_age (by intro c hc; simp at hc; omega) (by omega) (by omega) ?_
          rw [esl _ rfl, hk]
          have htt : (x.take 3).take ([97, 103, 101] : List Nat).length = x.take 3 := by rw [List.take_take]; rfl
          rw [htt]
          by_cases q2 : x.take 4 = [97, 103, 101, 61]
          · have e := zField_2 (A := A) (F := F) q1 q2
            have h2 : x.take 3 = [97, 103, 101] := (pe.mp q2).2.2
            rw [decide_eq_true h2]
            refine sMo_field_100 (fun z => absurd z (by decide)) (fun _ => ?_)
            have hyl : (x.drop 4).length = x.length - 4 := List.length_drop
            have hylo : zLo (x.drop 4) := fun c hc => hulo c (List.mem_of_mem_drop hc)
            rw [hk] at hend
            have gy : ∀ j, j < (x.drop 4).length → t.getD (fr + 3 + 1 + j) 0 = (x.drop 4).getD j 0 := fun j hj => by
              rw [getD_drop, gu _ (by omega)]; congr 1; omega
            generalize hy : x.drop 4 = y at e hyl hylo gy
            have eL : nI to - nI (fr + 3) - nI 1 = nI y.length := by rw [pk_sub (by omega), pk_sub (by omega)]; congr 1; omega
            -- the end
            have fin0 : ∀ o5 o7, zNu y = false → mW G d ad M_Mo_field 199 [some (.ref (ad 50)), some (.int (nI fr)), some (.int (nI to)), some (.int (nI (fr + 3))), some (.int (nI 3)), o5, some (.int (nI 0)), o7] [] μ (mPi fun r μ' => zFp μ x A F r μ') := fun o5 o7 hnu => by
              refine sMo_field_199 (fun _ => ?_) (fun z => absurd (by decide) z)
              refine sMo_field_213 ?_
              refine sMo_field_220 rfl ⟨_, rfl, zFp.no (by rw [e, if_pos (by rw [hnu]; simp)]) (R0.pi (by decide))⟩
            have fin1 : ∀ o7, zNu y = true → mW G d ad M_Mo_field 183 [some (.ref (ad 50)), some (.int (nI fr)), some (.int (nI to)), some (.int (nI (fr + 3))), some (.int (nI 3)), some (.int (nI (zVal y))), some (.int (nI 1)), o7] [] μ (mPi fun r μ' => zFp μ x A F r μ') := fun o7 hnu => by
              refine sMo_field_183 (fun z => absurd z (by decide)) (fun _ => ?_)
              cases hage : F.1 with
              | some n =>
                rw [hage] at n1 e
                have hn9 := hF.1 n hage
                refine sMo_field_188 (fun _ => ?_) (fun z => absurd (show (0 : Int32) ≤ μ.1 38 by rw [n1]; exact nI_pos' (by omega)) z)
                refine sMo_field_199 (fun _ => ?_) (fun z => absurd (by decide) z)
                refine sMo_field_213 ?_
                refine sMo_field_220 rfl ⟨_, rfl, zFp.no (by rw [e]; rfl) (R0.pi (by decide))⟩
              | none =>
                rw [hage] at n1 e
                refine sMo_field_188 (fun z => absurd (show (0 : Int32) ≤ -1 by rw [n1] at z; exact z) (by decide)) (fun _ => ?_)
                refine sMo_field_195 (fun z => absurd z (by decide)) (fun _ => ?_)
                refine sMo_field_208 ?_
                rw [hnu] at e
                refine sMo_field_220 rfl ⟨_, rfl, zFp.yes (e.trans rfl) ⟨pu_s, ?_, ?_, ?_, n5, ?_⟩ (R0.pi (by decide))⟩
                · dsimp only; rw [pk_un (by decide)]; exact n2
                · intro hne
                  obtain ⟨m1, m2, m3⟩ := n3 hne
                  refine ⟨?_, m2, m3⟩
                  dsimp only; rw [pk_un (by decide)]; exact m1
                · dsimp only; rw [pk_un (by decide)]; exact n4
                · dsimp only; rw [pk_un (by decide)]; exact n6
            have nuf : (y.length < 1 ∨ 4 < y.length) → zNu y = false := fun h => by
              unfold zNu
              cases y with
              | nil => rfl
              | cons c l =>
                rw [List.length_cons] at h
                have : Nat.ble (c :: l).length 4 = false := (Bool.not_eq_true _).mp (fun w => by have := Nat.le_of_ble_eq_true w; rw [List.length_cons] at this; omega)
                rw [this]; simp
            have skip : ∀ (i5 : Option Value), zNu y = false → mW G d ad M_Mo_field 128 [some (.ref (ad 50)), some (.int (nI fr)), some (.int (nI to)), some (.int (nI (fr + 3))), some (.int (nI 3)), i5, none, none] [] μ (mPi fun r μ' => zFp μ x A F r μ') := fun i5 hnu => by
              refine sMo_field_128 ?_
              refine sMo_field_136 (fun _ => sMo_field_183 (fun _ => fin0 _ _ hnu) (fun z => absurd (by decide) z)) (fun _ => sMo_field_142 (fun _ => sMo_field_183 (fun _ => fin0 _ _ hnu) (fun z => absurd (by decide) z)) (fun z => absurd (by decide) z))
            by_cases hl1 : y.length < 1
            · exact sMo_field_103 (fun _ => skip _ (nuf (Or.inl hl1))) (fun z => absurd (show nI to - nI (fr + 3) - nI 1 < nI 1 by rw [eL]; exact nI_lt hl1 (by omega)) z)
            · refine sMo_field_103 (fun z => absurd (show nI y.length < nI 1 by rw [← eL]; exact z) (nI_nlt (by omega) (by omega))) (fun _ => ?_)
              by_cases hl4 : 4 < y.length
              · exact sMo_field_115 (fun _ => skip _ (nuf (Or.inr hl4))) (fun z => absurd (show nI 4 < nI to - nI (fr + 3) - nI 1 by rw [eL]; exact nI_lt hl4 (by omega)) z)
              · refine sMo_field_115 (fun z => absurd (show nI 4 < nI y.length by rw [← eL]; exact z) (nI_nlt (by omega) (by omega))) (fun _ => ?_)
                refine sMo_field_124 ?_
                have hnu : zNu y = y.all zDg := by
                  unfold zNu
                  cases y with
                  | nil => simp at hl1
                  | cons c l => rw [Nat.ble_eq_true_of_le (Nat.not_lt.mp hl4)]; rfl
                have main : ∀ n j, j + n = y.length → (∀ i, i < j → zDg (y.getD i 0) = true) → mW G d ad M_Mo_field 136 [some (.ref (ad 50)), some (.int (nI fr)), some (.int (nI to)), some (.int (nI (fr + 3))), some (.int (nI 3)), some (.int (nI (zVal (y.take j)))), some (.int (nI 1)), some (.int (nI (fr + 3 + 1 + j)))] [] μ (mPi fun r μ' => zFp μ x A F r μ') := by
                  intro n
                  induction n with
                  | zero =>
                    intro j hj hall
                    rw [List.take_of_length_le (by omega)]
                    refine sMo_field_136 (fun _ => fin1 _ ?_) (fun z => absurd (nI_le (by omega) (by omega)) z)
                    rw [hnu, ← tw_all]
                    exact tw_eq _ _ _ (Nat.le_refl _) (fun i hi => hall i (by omega)) (fun w => absurd w (Nat.lt_irrefl _))
                  | succ n ih =>
                    intro j hj hall
                    have hcl := hylo.at j
                    refine sMo_field_136 (fun z => absurd z (nI_ge (by omega) (by omega))) (fun _ => ?_)
                    refine sMo_field_142 (fun z => absurd z (by decide)) (fun _ => ?_)
                    refine sMo_field_147 (i1 := fr + 3 + 1 + j) rfl (by rw [ml_2]; omega) (by omega) (Nat.le_of_ble_eq_true rfl) (by rw [at' ht _ (by omega), gy j (by omega)]; exact mc_digit hC hcl) ?_
                    rintro r μ1 ⟨rfl, rfl⟩
                    refine sMo_field_157 (i1 := fr + 3 + 1 + j) rfl (by rw [ml_2]; omega) ?_
                    rw [at' ht _ (by omega), gy j (by omega), nI_add]
                    by_cases hdg : zDg (y.getD j 0) = true
                    · have h48 := zDg_iff.mp hdg
                      have ev : nI 10 * nI (zVal (y.take j)) + nI (y.getD j 0) - nI 48 = nI (zVal (y.take (j + 1))) := by
                        rw [pk_mul, nI_add, pk_sub (by omega), zVal_s (by omega)]; congr 1; omega
                      rw [hdg, ev, zB1_t]
                      refine ih (j + 1) (by omega) (fun i hi => ?_)
                      by_cases q : i = j
                      · rw [q]; exact hdg
                      · exact hall i (by omega)
                    · have hf := (Bool.not_eq_true _).mp hdg
                      have hnf : zNu y = false := by
                        rw [hnu]
                        exact (Bool.not_eq_true _).mp (fun w => hdg (getD_all w (by omega)))
                      rw [hf, zB1_f]
                      exact sMo_field_136 (fun _ => sMo_field_183 (fun _ => fin0 _ _ hnf) (fun z => absurd (by decide) z)) (fun _ => sMo_field_142 (fun _ => sMo_field_183 (fun _ => fin0 _ _ hnf) (fun z => absurd (by decide) z)) (fun z => absurd (by decide) z))
                have := main y.length 0 (by omega) (fun i hi => absurd hi (Nat.not_lt_zero _))
                rw [List.take_zero, Nat.add_zero] at this
                have e2 : nI (fr + 3) + nI 1 = nI (fr + 3 + 1) := nI_add _ _
                rw [e2]
                exact this
          · have h2 : ¬ x.take 3 = [97, 103, 101] := fun w => q2 (pe.mpr ⟨hk, by rw [hk] at hend; exact hend, w⟩)
            rw [decide_eq_false h2]
            refine sMo_field_100 (fun _ => ?_) (fun z => absurd (by decide) z)
            have := ck q2
            rw [hk] at this
            exact this
      · have hee : zTw (zNo 61) x = x.length := (by omega)
        have no61 : 61 ∉ x := fun w => by
          obtain ⟨i, hi, e⟩ := List.getElem_of_mem w
          have := tw_at (zNo 61) x i (by omega)
          rw [List.getD_eq_getElem?_getD, List.getElem?_eq_getElem hi] at this
          have h2 : zNo 61 x[i] = true := this
          rw [e] at h2
          exact absurd h2 (by decide)
        refine sMo_field_70 (fun z => absurd (by congr 1; omega) z) (fun _ => sMo_field_75 rfl ⟨_, rfl, zFp.no (zField_5 q1 (fun w => no61 ?_) (fun w => no61 ?_) (fun w => no61 ?_)) R0⟩)
        · exact List.mem_of_mem_take (by rw [w]; decide : 61 ∈ x.take 4)
        · exact List.mem_of_mem_take (by rw [w]; decide : 61 ∈ x.take 7)
        · exact List.mem_of_mem_take (by rw [w]; decide : 61 ∈ x.take 3)
    have scan : ∀ n j, j + n = zTw (zNo 61) x → mW G d ad M_Mo_field 48 [some (.ref (ad 50)), some (.int (nI fr)), some (.int (nI to)), some (.int (nI (fr + j))), none, none, none, none] [] μ (mPi fun r μ' => zFp μ x A F r μ') := by
      intro n
      induction n with
      | zero =>
        intro j hj
        rw [show j = zTw (zNo 61) x by omega]
        by_cases hend : zTw (zNo 61) x < x.length
        · refine sMo_field_48 (fun z => absurd z (nI_ge (by omega) (by omega))) (fun _ => ?_)
          refine sMo_field_53 (i1 := fr + zTw (zNo 61) x) rfl (by rw [ml_2]; omega) (fun _ => aft) (fun z => absurd ?_ z)
          rw [at' ht _ (by omega), ← gu _ (by omega), zNo_f.mp (tw_end (zNo 61) x hend)]
        · exact sMo_field_48 (fun _ => aft) (fun z => absurd (nI_le (by omega) (by omega)) z)
      | succ n ih =>
        intro j hj
        refine sMo_field_48 (fun z => absurd z (nI_ge (by omega) (by omega))) (fun _ => ?_)
        refine sMo_field_53 (i1 := fr + j) rfl (by rw [ml_2]; omega) (fun z => ?_) (fun _ => ?_)
        · rw [at' ht _ (by omega), ← gu _ (by omega)] at z
          have := hulo.at j
          exact absurd ((nI_eq (by omega) (by omega)).mp z) (zNo_iff.mp (tw_at (zNo 61) x j (by omega)))
        · refine sMo_field_64 ?_
          rw [nI_add]
          exact ih (j + 1) (by omega)
    have := scan (zTw (zNo 61) x) 0 (by omega)
    rw [Nat.add_zero] at this
    exact this
  have e4 : nI to - nI fr = nI (to - fr) := pk_sub hft
  by_cases h4 : to - fr = 4
  · refine sMo_field_0 (fun z => absurd (by rw [e4, h4]) z) (fun _ => ?_)
    refine sMo_field_7 ?_
    refine word 13 114 464399 [111, 112, 101, 110] fr to _ _ dMo_field_13 dMo_field_16 zcl_114 zCh_open (by intro c hc; simp at hc; omega) hft hto ?_
    rw [hx]
    have htt : x.take ([111, 112, 101, 110] : List Nat).length = x := List.take_of_length_le (by rw [hul, h4]; decide)
    rw [htt]
    by_cases q1 : x = [111, 112, 101, 110]
    · rw [decide_eq_true q1]
      have e := zField_1 (A := A) (F := F) q1
      refine sMo_field_19 (fun z => absurd z (by decide)) (fun _ => ?_)
      refine sMo_field_22 ?_
      cases hO : F.2.2.2 with
      | true =>
        rw [hO] at n6
        rw [hO, if_pos rfl] at e
        have e42 : upd μ.1 42 (μ.1 42 + nI 1) 42 = nI 2 := by rw [pk_us, n6]; decide
        exact sMo_field_32 (fun _ => sMo_field_44 rfl ⟨_, rfl, zFp.no e (R0.pi (by decide))⟩) (fun z => absurd (show nI 2 = nI 1 by rw [← e42]; exact z) (by decide))
      | false =>
        rw [hO] at n6
        rw [hO, if_neg (by decide)] at e
        have e42 : upd μ.1 42 (μ.1 42 + nI 1) 42 = nI 1 := by rw [pk_us, n6]; decide
        refine sMo_field_32 (fun z => absurd e42 z) (fun _ => sMo_field_40 rfl ⟨_, rfl, zFp.yes e ⟨?_, ?_, ?_, ?_, n5, ?_⟩ (R0.pi (by decide))⟩)
        · dsimp only; rw [pk_un (by decide)]; exact n1
        · dsimp only; rw [pk_un (by decide)]; exact n2
        · intro hne
          obtain ⟨m1, m2, m3⟩ := n3 hne
          refine ⟨?_, m2, m3⟩
          dsimp only; rw [pk_un (by decide)]; exact m1
        · dsimp only; rw [pk_un (by decide)]; exact n4
        · exact e42.trans zB1_t.symm
    · rw [decide_eq_false q1]
      exact sMo_field_19 (fun _ => rest q1) (fun z => absurd (by decide) z)
  · exact sMo_field_0 (fun _ => rest (fun w => h4 (by rw [← hul, w]; rfl))) (fun z => by rw [e4] at z; exact absurd ((nI_eq (by omega) (by omega)).mp z) h4)
end MH
