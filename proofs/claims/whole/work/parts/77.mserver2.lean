section NC
variable {G : zG} {d : Nat} {ad : Nat → Nat} {μ : zMm} {t : List Nat} {A : zA} {F : zFe} {T : zTT} {D : zDD} {Q : zRR} {C : zCC}
theorem two_eq {t : List Nat} {n : Nat} : (t.take n).take 2 = [47, 47] ↔ 2 ≤ n ∧ 2 ≤ t.length ∧ t.getD 0 0 = 47 ∧ t.getD 1 0 = 47 := by
  rw [List.take_take]
  constructor
  · intro h
    have hl : min (min 2 n) t.length = 2 := by have := congrArg List.length h; rw [List.length_take] at this; simpa using this
    have hn : min 2 n = 2 := (by omega)
    rw [hn] at h
    refine ⟨(by omega), (by omega), ?_, ?_⟩
    · rw [← getD_take (t := t) (i := 2) (by decide : 0 < 2), h]; rfl
    · rw [← getD_take (t := t) (i := 2) (by decide : 1 < 2), h]; rfl
  · rintro ⟨h1, h2, h3, h4⟩
    rw [Nat.min_eq_left h1, take_s (i := 1) (by omega), take_s (i := 0) (by omega), h3, h4]; rfl
theorem zServe_0 (h : ¬ (t.take (zTw zNb t)).take 2 = [47, 47]) : zServe t = .inl 0 := by unfold zServe; rw [if_neg h]
theorem zServe_1 (h : (t.take (zTw zNb t)).take 2 = [47, 47]) (h2 : zRead (t.take (zTw zNb t)) zHome = none) : zServe t = .inl 0 := by unfold zServe; rw [if_pos h, h2]
theorem zServe_2 (h : (t.take (zTw zNb t)).take 2 = [47, 47]) (h2 : zRead (t.take (zTw zNb t)) zHome = some A) (h3 : ¬ A.2.2.2 = []) : zServe t = .inl 0 := by unfold zServe; rw [if_pos h, h2]; exact if_neg h3
theorem zServe_3 (h : (t.take (zTw zNb t)).take 2 = [47, 47]) (h2 : zRead (t.take (zTw zNb t)) zHome = some A) (h3 : A.2.2.2 = []) {p : Nat} (h4 : zFls A t (t.length + 1) (zTw zNb t) (none, ([], []), none, false) = .inl p) : zServe t = .inl p := by unfold zServe; rw [if_pos h, h2]; show (if A.2.2.2 = [] then _ else _) = _; rw [if_pos h3, h4]
theorem zServe_4 (h : (t.take (zTw zNb t)).take 2 = [47, 47]) (h2 : zRead (t.take (zTw zNb t)) zHome = some A) (h3 : A.2.2.2 = []) {p : Nat} {F : zFe} (h4 : zFls A t (t.length + 1) (zTw zNb t) (none, ([], []), none, false) = .inr (p, F)) : zServe t = if p = t.length then .inl p else if 1500 < t.length - (p + 1) then .inl (p + 1 + 1500) else .inr (A, F.1.getD 0, F.2.1, F.2.2.1, F.2.2.2, t.drop (p + 1)) := by unfold zServe; rw [if_pos h, h2]; show (if A.2.2.2 = [] then _ else _) = _; rw [if_pos h3, h4]
theorem sli_dt {t : List Nat} {a n : Nat} : zSli t a (a + n) = (t.drop a).take n := by unfold zSli; rw [Nat.add_sub_cancel_left]
theorem mc_server (hC : zCs G) (hd : 9 ≤ d) (h : mRel μ T D Q C) (hS : zSW T D Q C) : mC G d ad M_Mo_server [.ref (ad 50)] μ (mPo (oTx oServer T D Q C)) := by
  have hl := hS.1
  have hD := hS.2.2.1
  have htw := tw_le zOkc T.1
  refine mC_in [some (.ref (ad 50)), none, none, none, none] pn_Mo_server hC.1 rfl (Nat.le_of_ble_eq_true rfl) rfl ?_
  refine sMo_server_0 (by omega) (Nat.le_of_ble_eq_true rfl) (mc_take hC h.1) ?_
  rintro r μ1 ⟨rfl, k1, k2, k3, k4⟩
  have R1 := h.tk hD k1 k4
  unfold oTx
  by_cases q : zTw zOkc T.1 < T.1.length
  · rw [if_pos q, if_pos q]
    refine sMo_server_4 (fun z => absurd z (nI_pos (by omega))) (fun _ => ?_)
    refine sMo_server_9 (by omega) (Nat.le_of_ble_eq_true rfl) (mc_wrong hC) ?_
    rintro r μ2 ⟨rfl, rfl⟩
    exact sMo_server_13 (mPo.same rfl R1)
  rw [if_neg q, if_neg q]
  have hlo : zLo T.1 := zLo_all zOkc_lo (zOk_all q)
  generalize T.1 = t at hl k2 k3 hlo
  have kN := mN.of k3 hlo
  have at' : ∀ i, i < t.length → μ1.2 2 i = nI (t.getD i 0) := fun i hi => by have := kN i hi; rw [Nat.zero_add] at this; exact this
  refine sMo_server_4 (fun _ => ?_) (fun z => absurd (by decide) z)
  refine sMo_server_14 (by omega) (Nat.le_of_ble_eq_true rfl) (mc_tokenEnd hC (by omega) k2 kN hlo hl (a := 0) (Nat.zero_le _)) ?_
  rintro r μ2 ⟨rfl, rfl⟩
  rw [List.drop_zero, Nat.zero_add]
  have hat := tw_le zNb t
  -- a wrong text
  have bad0 : ∀ (μ3 : zMm) (o2 o3 : Option Value), mRel μ3 ([], T.2) D Q C → zServe t = .inl 0 → mW G d ad M_Mo_server 70 [some (.ref (ad 50)), some (.int (-1)), o2, o3, none] [] μ3 (mPo (oServer t ([], T.2) D Q C)) := by
    intro μ3 o2 o3 R3 hz
    refine sMo_server_70 (by omega) (Nat.le_of_ble_eq_true rfl) (mc_wrong hC) ?_
    rintro r μ4 ⟨rfl, rfl⟩
    refine sMo_server_74 ?_
    unfold oServer
    rw [hz]
    exact mPo.same rfl R3
  by_cases q2 : (t.take (zTw zNb t)).take 2 = [47, 47]
  · obtain ⟨b1, b2, b3, b4⟩ := two_eq.mp q2
    refine sMo_server_19 (fun z => absurd z (nI_nlt (by omega) (by omega))) (fun _ => ?_)
    refine sMo_server_25 (i1 := 0) rfl (by rw [ml_2]; omega) (fun z => absurd (by rw [at' 0 (by omega), b3]) z) (fun _ => ?_)
    refine sMo_server_36 (i1 := 1) rfl (by rw [ml_2]; omega) (fun z => absurd (by rw [at' 1 (by omega), b4]) z) (fun _ => ?_)
    refine sMo_server_47 (by omega) (Nat.le_of_ble_eq_true rfl) (mc_refer hC (by omega) kN hlo hl (fr := 0) (to := zTw zNb t) (Nat.zero_le _) hat (by decide) (by decide) R1.2.2.2.1 zHome_wf) ?_
    have es : zSli t 0 (zTw zNb t) = t.take (zTw zNb t) := by unfold zSli; rw [List.drop_zero, Nat.sub_zero]
    rw [es]
    rintro r μ3 ⟨n1, n2, n3⟩
    have R3 := R1.sc hD n3 zDj_r (by decide) (by decide) (by decide) (by decide) (by decide)
    cases hz : zRead (t.take (zTw zNb t)) zHome with
    | none =>
      have := n1 hz
      subst this
      exact sMo_server_58 (fun _ => bad0 μ3 _ _ R3 (zServe_1 q2 hz)) (fun z => absurd rfl z)
    | some A =>
      obtain ⟨rfl, n4, n5⟩ := n2 A hz
      have hwA := zRead_wf zHome_wf hz
      refine sMo_server_58 (fun z => absurd z (by decide)) (fun _ => ?_)
      have m8 := n4.2
      by_cases q3 : A.2.2.2 = []
      · refine sMo_server_61 (i1 := 0) rfl (by rw [ml_8]; omega) (fun _ => ?_) (fun z => absurd (show μ3.2 8 0 ≤ 0 by rw [m8.1, q3]; decide) z)
        refine sMo_server_75 (by omega) (Nat.le_of_ble_eq_true rfl) (mc_copyRow hC (to := 3) (fr := 0) (by decide) (by decide) (by decide)) ?_
        rintro μ4 ⟨c1, c2, -⟩
        have R4 := R3.sc hD c1 ⟨by decide, by decide, by decide⟩ (by decide) (by decide) (by decide) (by decide) (by decide)
        have P4 : mPw μ4 3 (zPl A) := c2 _ n4.1
        have x3 : μ4.1 3 = nI t.length := (c1.1 3 List.not_mem_nil).trans ((n3.1 3 (by decide)).trans k2)
        have x2 : μ4.2 2 = μ2.2 2 := (c1.ar 2 List.not_mem_nil (by decide) (by decide) (by decide)).trans (n3.ar 2 (by decide) (by decide) (by decide) (by decide))
        refine sMo_server_81 ?_
        refine sMo_server_86 ?_
        refine sMo_server_91 ?_
        refine sMo_server_96 ?_
        have f5 : mFm [12, 14, 15, 38, 39, 40, 41, 42] [9, 10, 11, 43] [0, 4] μ4 (upd (upd (upd (upd μ4.1 38 (-1)) 39 (nI 0)) 41 (nI 0)) 42 (nI 0), μ4.2) := (((mFm.rf.pi (μ1 := μ4) (by decide)).pi (by decide)).pi (by decide)).pi (by decide)
        have N5 : mNew (upd (upd (upd (upd μ4.1 38 (-1)) 39 (nI 0)) 41 (nI 0)) 42 (nI 0), μ4.2) (none, ([], []), none, false) := by
          refine ⟨?_, ?_, (fun z => absurd rfl z), ?_, (fun b hb => by cases hb), ?_⟩
          · dsimp only; rw [pk_un (by decide), pk_un (by decide), pk_un (by decide), pk_us]
          · dsimp only; rw [pk_un (by decide), pk_un (by decide), pk_us]; rfl
          · dsimp only; rw [pk_un (by decide), pk_us]; decide
          · dsimp only; rw [pk_us]; decide
        have zj : zDj [12, 14, 15, 38, 39, 40, 41, 42] [9, 10, 11, 43] [0, 4] := ⟨by decide, by decide, by decide⟩
        -- behind the fields
        have aft : ∀ (p : Nat) (F : zFe) (μ6 : zMm) (o3 : Option Value), p ≤ t.length → zFls A t (t.length + 1) (zTw zNb t) (none, ([], []), none, false) = .inr (p, F) → mFm [12, 14, 15, 38, 39, 40, 41, 42] [9, 10, 11, 43] [0, 4] μ4 μ6 → mNew μ6 F → zFeW F → mW G d ad M_Mo_server 151 [some (.ref (ad 50)), some (.int (-1)), some (.int (nI p)), o3, none] [] μ6 (mPo (oServer t ([], T.2) D Q C)) := by
          intro p F μ6 o3 hp hfl f6 N6 hF
          have R6 := R4.sc hD f6 zj (by decide) (by decide) (by decide) (by decide) (by decide)
          have y3 : μ6.1 3 = nI t.length := (f6.1 3 (by decide)).trans x3
          have y2 : μ6.2 2 = μ2.2 2 := (f6.ar 2 (by decide) (by decide) (by decide) (by decide)).trans x2
          have hsv := zServe_4 q2 hz q3 hfl
          by_cases e1 : p = t.length
          · rw [if_pos e1] at hsv
            refine sMo_server_151 (fun z => absurd (by rw [y3, e1]) z) (fun _ => ?_)
            refine sMo_server_159 (by omega) (Nat.le_of_ble_eq_true rfl) (mc_wrong hC) ?_
            rintro r μ7 ⟨rfl, rfl⟩
            refine sMo_server_166 ?_
            unfold oServer
            rw [hsv, y3, e1]
            exact mPo.same rfl R6
          · rw [if_neg e1] at hsv
            refine sMo_server_151 (fun _ => ?_) (fun z => absurd ((nI_eq (by omega) (by omega)).mp (show nI p = nI t.length by rw [← y3]; exact z)) e1)
            have ed : μ6.1 3 - (nI p + nI 1) = nI (t.length - (p + 1)) := by rw [y3, nI_add, pk_sub (by omega)]
            by_cases e2 : 1500 < t.length - (p + 1)
            · rw [if_pos e2] at hsv
              refine sMo_server_167 (fun z => by rw [ed] at z; exact absurd ((nI_leI (by omega) (by omega)).mp z) (by omega)) (fun _ => ?_)
              refine sMo_server_182 (by omega) (Nat.le_of_ble_eq_true rfl) (mc_wrong hC) ?_
              rintro r μ7 ⟨rfl, rfl⟩
              refine sMo_server_190 ?_
              unfold oServer
              rw [hsv, nI_add, nI_add]
              exact mPo.same rfl R6
            · rw [if_neg e2] at hsv
              refine sMo_server_167 (fun _ => ?_) (fun z => absurd (by rw [ed]; exact nI_le (by omega) (by omega)) z)
              refine sMo_server_191 ?_
              rw [nI_add]
              unfold oServer
              rw [hsv]
              generalize hα : ((A, F.1.getD 0, F.2.1, F.2.2.1, F.2.2.2, t.drop (p + 1)) : zAn) = α
              have hα1 : α.1 = A := by rw [← hα]
              have A6 := R6.2.2.2.2.1
              have hle := fi_le (p := zAsp (zPl A)) (xs := D.1)
              have d2 := hD.2.1
              have P6 : mPw μ6 3 (zPl A) := P4.fm f6 (by decide)
              -- put at a
              have store : ∀ a (μ7 : zMm) (as : List zAn) (o4 : Option Value), a < 12 → a ≤ D.1.length → sI μ6 μ7 a → μ7.2 = μ6.2 → (∀ k, k ≠ 16 → μ7.1 k = μ6.1 k) → μ7.1 16 = nI (if a < D.1.length then D.1.length else D.1.length + 1) → zAput D.1 α = some (if a < D.1.length then D.1.set a α else D.1 ++ [α]) → mW G d ad M_Mo_server 252 [some (.ref (ad 50)), some (.int (-1)), some (.int (nI (p + 1))), some (.int (nI a)), o4] [] μ7 (mPo (match zAput D.1 α with
                  | none => (-1, ([], T.2), D, Q, C)
                  | some as => (nI as.length, ([], T.2), (as, D.2), Q, C))) := by
                intro a μ7 as o4 ha haL s7 e7 i7 x16 hput
                rw [hput]
                have hN7 : mNew μ7 F := by
                  obtain ⟨g1, g2, g3, g4, g5, g6⟩ := N6
                  refine ⟨(i7 38 (by decide)).trans g1, (i7 39 (by decide)).trans g2, fun z => ?_, (i7 41 (by decide)).trans g4, fun b hb => ?_, (i7 42 (by decide)).trans g6⟩
                  · obtain ⟨j1, j2, j3⟩ := g3 z
                    refine ⟨(i7 40 (by decide)).trans j1, ?_, ?_⟩
                    · rw [e7]; exact j2
                    · rw [e7]; exact j3
                  · obtain ⟨j1, j2⟩ := g5 b hb
                    refine ⟨j1.ra ⟨by rw [e7], by rw [e7], fun _ _ => by rw [e7]⟩, ?_⟩
                    rw [e7]; exact j2
                refine mw_sstore hC (by omega) (t := t) (A := A) (F := F) ha (p1 := p + 1) (by omega) (by omega) ((i7 3 (by decide)).trans y3) (by rw [e7, y2]; exact kN) hlo hl (P6.ra ⟨by rw [e7], by rw [e7], fun _ _ => by rw [e7]⟩) hN7 hF (fun μ8 s8 x8 v8 a8 => ?_)
                rw [hα] at v8 a8
                have S8 := s7.tr s8
                have rA8 := A6.put hD.1 d2 haL ha (x8.trans x16) S8 v8 a8
                refine ⟨_, rfl, ?_, R6.ans hD ha S8 rA8⟩
                rw [rA8.1]
              -- behind the search
              have found : mW G d ad M_Mo_server 219 [some (.ref (ad 50)), some (.int (-1)), some (.int (nI (p + 1))), some (.int (nI (zFi (zAsp (zPl A)) D.1))), none] [] μ6 (mPo (match zAput D.1 α with
                  | none => (-1, ([], T.2), D, Q, C)
                  | some as => (nI as.length, ([], T.2), (as, D.2), Q, C))) := by
                by_cases w12 : zFi (zAsp (zPl A)) D.1 = 12
                · have hput : zAput D.1 α = none := by
                    unfold zAput
                    rw [hα1, if_neg (by omega), if_neg (by omega)]
                  rw [hput]
                  exact sMo_server_219 (fun z => absurd (by rw [w12]) z) (fun _ => sMo_server_225 (mPo.same rfl R6))
                · refine sMo_server_219 (fun _ => ?_) (fun z => absurd ((nI_eq (by omega) (by omega)).mp z) w12)
                  by_cases wl : zFi (zAsp (zPl A)) D.1 < D.1.length
                  · refine sMo_server_227 (fun _ => ?_) (fun z => absurd ((nI_eq (by omega) (by omega)).mp (show nI (zFi (zAsp (zPl A)) D.1) = nI D.1.length by rw [← A6.1]; exact z)) (by omega))
                    refine sMo_server_245 ?_
                    refine store _ _ D.1 _ (by omega) hle sI.i rfl (fun k hk => pk_un hk) ?_ ?_
                    · dsimp only; rw [pk_us, if_pos wl]; exact A6.1
                    · unfold zAput
                      rw [hα1, if_pos wl, if_pos wl]
                  · refine sMo_server_227 (fun z => absurd (show nI (zFi (zAsp (zPl A)) D.1) = μ6.1 16 by rw [A6.1]; congr 1; omega) z) (fun _ => ?_)
                    refine sMo_server_236 ?_
                    refine store _ _ D.1 _ (by omega) hle sI.i rfl (fun k hk => pk_un hk) ?_ ?_
                    · dsimp only; rw [pk_us, if_neg wl, A6.1, nI_add]
                    · unfold zAput
                      rw [hα1, if_neg wl, if_neg wl, if_pos (by omega)]
              have look : ∀ i (hi : i < D.1.length), (zAsp (zPl A) D.1[i] = true → mW G d ad M_Mo_server 219 [some (.ref (ad 50)), some (.int (-1)), some (.int (nI (p + 1))), some (.int (nI i)), none] [] μ6 (mPo (match zAput D.1 α with
                  | none => (-1, ([], T.2), D, Q, C)
                  | some as => (nI as.length, ([], T.2), (as, D.2), Q, C)))) → (zAsp (zPl A) D.1[i] = false → mW G d ad M_Mo_server 213 [some (.ref (ad 50)), some (.int (-1)), some (.int (nI (p + 1))), some (.int (nI i)), none] [] μ6 (mPo (match zAput D.1 α with
                  | none => (-1, ([], T.2), D, Q, C)
                  | some as => (nI as.length, ([], T.2), (as, D.2), Q, C)))) → mW G d ad M_Mo_server 193 [some (.ref (ad 50)), some (.int (-1)), some (.int (nI (p + 1))), some (.int (nI i)), none] [] μ6 (mPo (match zAput D.1 α with
                  | none => (-1, ([], T.2), D, Q, C)
                  | some as => (nI as.length, ([], T.2), (as, D.2), Q, C))) := by
                intro i hi ky kn
                refine sMo_server_193 (fun z => absurd (show nI D.1.length ≤ nI i by rw [← A6.1]; exact z) (nI_ge (by omega) (by omega))) (fun _ => ?_)
                refine sMo_server_201 (by omega) (Nat.le_of_ble_eq_true rfl) (by rw [nI_add]; exact mc_alike hC (by omega) (a := 6 + i) (b := 3) (by omega) (by decide) (A6.2 i hi).1.1 P6) ?_
                rintro r μ7 ⟨rfl, rfl⟩
                cases hb : zAsp (zPl A) D.1[i] with
                | true =>
                  have hb' : (zPl D.1[i].1 == zPl A) = true := hb
                  rw [hb']
                  exact sMo_server_210 (fun _ => ky hb) (fun z => absurd z (by decide))
                | false =>
                  have hb' : (zPl D.1[i].1 == zPl A) = false := hb
                  rw [hb']
                  exact sMo_server_210 (fun z => absurd (by decide) z) (fun _ => kn hb)
              have main : ∀ m i, i + m = zFi (zAsp (zPl A)) D.1 → mW G d ad M_Mo_server 193 [some (.ref (ad 50)), some (.int (-1)), some (.int (nI (p + 1))), some (.int (nI i)), none] [] μ6 (mPo (match zAput D.1 α with
                  | none => (-1, ([], T.2), D, Q, C)
                  | some as => (nI as.length, ([], T.2), (as, D.2), Q, C))) := by
                intro m
                induction m with
                | zero =>
                  intro i hi
                  rw [Nat.add_zero] at hi
                  subst hi
                  by_cases wl : zFi (zAsp (zPl A)) D.1 < D.1.length
                  · exact look _ wl (fun _ => found) (fun z => by rw [fi_at wl] at z; cases z)
                  · exact sMo_server_193 (fun _ => found) (fun z => absurd (show μ6.1 16 ≤ nI (zFi (zAsp (zPl A)) D.1) by rw [A6.1]; exact nI_le (by omega) (by omega)) z)
                | succ m ih =>
                  intro i hi
                  have hiL : i < D.1.length := (by omega)
                  refine look i hiL (fun z => ?_) (fun _ => ?_)
                  · rw [fi_no (p := zAsp (zPl A)) hiL (by omega)] at z; cases z
                  · refine sMo_server_213 ?_
                    rw [nI_add]
                    exact ih (i + 1) (by omega)
              exact main (zFi (zAsp (zPl A)) D.1) 0 (by omega)
        -- the fields
        have loop : ∀ n p (F : zFe) (μ6 : zMm) (o3 : Option Value), p ≤ t.length → t.length + 1 ≤ n + p → zFls A t (t.length + 1) (zTw zNb t) (none, ([], []), none, false) = zFls A t n p F → mFm [12, 14, 15, 38, 39, 40, 41, 42] [9, 10, 11, 43] [0, 4] μ4 μ6 → mNew μ6 F → zFeW F → mW G d ad M_Mo_server 101 [some (.ref (ad 50)), some (.int (-1)), some (.int (nI p)), o3, none] [] μ6 (mPo (oServer t ([], T.2) D Q C)) := by
          intro n
          induction n with
          | zero => intro p F μ6 o3 hp hn; omega
          | succ n ih =>
            intro p F μ6 o3 hp hn hfl f6 N6 hF
            have R6 := R4.sc hD f6 zj (by decide) (by decide) (by decide) (by decide) (by decide)
            have y3 : μ6.1 3 = nI t.length := (f6.1 3 (by decide)).trans x3
            have y2 : μ6.2 2 = μ2.2 2 := (f6.ar 2 (by decide) (by decide) (by decide) (by decide)).trans x2
            have y2' : mN (μ6.2 2) 0 t := by rw [y2]; exact kN
            by_cases e1 : p < t.length ∧ t.getD p 0 = 32
            · have hstep : zFls A t (n + 1) p F = (match zField ((t.drop (p + 1)).take (zTw zNb (t.drop (p + 1)))) A F with
                  | none => .inl (p + 1)
                  | some F' => zFls A t n (p + 1 + zTw zNb (t.drop (p + 1))) F') := by
                rw [zFls, if_pos e1]
                cases zField ((t.drop (p + 1)).take (zTw zNb (t.drop (p + 1)))) A F <;> rfl
              rw [hstep] at hfl
              refine sMo_server_101 (fun z => absurd (show nI t.length ≤ nI p by rw [← y3]; exact z) (nI_ge (by omega) (by omega))) (fun _ => ?_)
              refine sMo_server_109 (i1 := p) rfl (by rw [ml_2]; omega) (fun z => absurd (by rw [y2, at' p (by omega), e1.2]) z) (fun _ => ?_)
              refine sMo_server_120 (by omega) (Nat.le_of_ble_eq_true rfl) (by rw [nI_add]; exact mc_tokenEnd hC (by omega) y3 y2' hlo hl (a := p + 1) (by omega)) ?_
              rintro r μ7 ⟨rfl, rfl⟩
              have htk := tw_le zNb (t.drop (p + 1))
              have hdl : (t.drop (p + 1)).length = t.length - (p + 1) := List.length_drop
              refine sMo_server_127 (by omega) (Nat.le_of_ble_eq_true rfl) (by rw [nI_add]; exact mc_field hC (by omega) y2' hlo hl (fr := p + 1) (to := p + 1 + zTw zNb (t.drop (p + 1))) (by omega) (by omega) (P4.fm f6 (by decide)) hwA N6 hF) ?_
              rw [sli_dt]
              rintro r μ8 ⟨j1, j2, j3⟩
              have R8 := R4.sc hD (f6.tr j3) zj (by decide) (by decide) (by decide) (by decide) (by decide)
              cases hfd : zField ((t.drop (p + 1)).take (zTw zNb (t.drop (p + 1)))) A F with
              | none =>
                have := j1 hfd
                subst this
                rw [hfd] at hfl
                refine sMo_server_136 (fun z => absurd rfl z) (fun _ => ?_)
                refine sMo_server_139 (by omega) (Nat.le_of_ble_eq_true rfl) (mc_wrong hC) ?_
                rintro r μ9 ⟨rfl, rfl⟩
                refine sMo_server_145 ?_
                unfold oServer
                rw [zServe_3 q2 hz q3 hfl, nI_add]
                exact mPo.same rfl R8
              | some F' =>
                obtain ⟨rfl, j4⟩ := j2 F' hfd
                rw [hfd] at hfl
                refine sMo_server_136 (fun _ => ?_) (fun z => absurd z (by decide))
                refine sMo_server_146 ?_
                exact ih (p + 1 + zTw zNb (t.drop (p + 1))) F' μ8 _ (by omega) (by omega) hfl (f6.tr j3) j4 (zField_w hwA hF hfd)
            · have hstep : zFls A t (n + 1) p F = .inr (p, F) := by
                rw [zFls, if_neg e1]
              rw [hstep] at hfl
              by_cases e2 : p < t.length
              · refine sMo_server_101 (fun z => absurd (show nI t.length ≤ nI p by rw [← y3]; exact z) (nI_ge (by omega) (by omega))) (fun _ => ?_)
                refine sMo_server_109 (i1 := p) rfl (by rw [ml_2]; omega) (fun _ => aft p F μ6 _ hp hfl f6 N6 hF) (fun z => ?_)
                rw [y2, at' p e2] at z
                have := hlo.at p
                exact absurd ⟨e2, (nI_eq (by omega) (by omega)).mp z⟩ e1
              · exact sMo_server_101 (fun _ => aft p F μ6 _ hp hfl f6 N6 hF) (fun z => absurd (show μ6.1 3 ≤ nI p by rw [y3]; exact nI_le (by omega) (by omega)) z)
        exact loop (t.length + 1) (zTw zNb t) _ _ _ hat (by omega) rfl f5 N5 ⟨(fun n hn => by cases hn), Or.inl ⟨rfl, rfl⟩, (fun b hb => by cases hb)⟩
      · have hmk : A.2.2.2.drop 1 ≠ [] := by
          rcases hwA.2.2.2.2.2 with e | ⟨m, e, e2⟩
          · exact absurd e q3
          · rw [e]
            intro z
            have h1 := (zNm_all e2).1
            have h2 : m = [] := z
            rw [h2] at h1
            exact absurd h1 (by decide)
        have hpos := List.length_pos_iff.mpr hmk
        have := m8.2.2.1
        exact sMo_server_61 (i1 := 0) rfl (by rw [ml_8]; omega) (fun z => absurd (show nI (A.2.2.2.drop 1).length ≤ 0 by rw [← m8.1]; exact z) (nI_nle (by omega) (by omega))) (fun _ => bad0 μ3 _ _ R3 (zServe_2 q2 hz q3))
  · have hz := zServe_0 q2
    by_cases b1 : zTw zNb t < 2
    · exact sMo_server_19 (fun _ => bad0 μ2 _ _ R1 hz) (fun z => absurd (nI_lt b1 (by omega)) z)
    · refine sMo_server_19 (fun z => absurd z (nI_nlt (by omega) (by omega))) (fun _ => ?_)
      have l0 := hlo.at 0
      have l1 := hlo.at 1
      refine sMo_server_25 (i1 := 0) rfl (by rw [ml_2]; omega) (fun _ => bad0 μ2 _ _ R1 hz) (fun z => ?_)
      rw [at' 0 (by omega)] at z
      have e0 := (nI_eq (by omega) (by omega)).mp z
      refine sMo_server_36 (i1 := 1) rfl (by rw [ml_2]; omega) (fun _ => bad0 μ2 _ _ R1 hz) (fun z => ?_)
      rw [at' 1 (by omega)] at z
      have e1 := (nI_eq (by omega) (by omega)).mp z
      exact absurd (two_eq.mpr ⟨(by omega), (by omega), e0, e1⟩) q2
end NC
