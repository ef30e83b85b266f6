def zSli (t : List Nat) (a b : Nat) : List Nat := (t.drop a).take (b - a)
theorem sli_len {t : List Nat} {a b : Nat} (h : b ≤ t.length) : (zSli t a b).length = b - a := by
  unfold zSli
  rw [List.length_take, List.length_drop]; omega
theorem sli_get {t : List Nat} {a b j : Nat} (h : j < b - a) : (zSli t a b).getD j 0 = t.getD (a + j) 0 := by
  unfold zSli
  rw [getD_take h, getD_drop]
theorem sli_lo {t : List Nat} {a b : Nat} (h : zLo t) : zLo (zSli t a b) := fun c hc => h c (List.mem_of_mem_drop (List.mem_of_mem_take hc))
/-- how far the NAME at the start goes: 0 if it is none -/
def zNr (s : List Nat) : Nat := match s with
  | [] => 0
  | c :: l => if zSm c = true then (if 1 + zTw zNc l ≤ 8 then 1 + zTw zNc l else 0) else 0
theorem zNr_eq {s : List Nat} (h : s ≠ []) : zNr s = if zSm (s.getD 0 0) = true then (if zTw zNc s ≤ 8 then zTw zNc s else 0) else 0 := by
  cases s with
  | nil => exact absurd rfl h
  | cons c l =>
    show (if zSm c = true then (if 1 + zTw zNc l ≤ 8 then 1 + zTw zNc l else 0) else 0) = if zSm c = true then (if zTw zNc (c :: l) ≤ 8 then zTw zNc (c :: l) else 0) else 0
    by_cases e : zSm c = true
    · have : zTw zNc (c :: l) = 1 + zTw zNc l := by
        unfold zTw
        have hc : zNc c = true := by unfold zNc; rw [e]; rfl
        rw [List.takeWhile_cons, hc]
        show (List.takeWhile zNc l).length + 1 = 1 + (List.takeWhile zNc l).length
        omega
      rw [this]
    · rw [if_neg e, if_neg e]
section MB
variable {G : zG} {d : Nat} {ad : Nat → Nat} {μ : zMm} {c k k2 : Nat} {t x y p : List Nat} {A B : zA}
theorem mc_nameEnd (hC : zCs G) (hd : 1 ≤ d) (hk : mB k) (ht : mN (μ.2 k) 0 t) (hlo : zLo t) (hl : t.length ≤ mLn k) {a b : Nat} (hab : a ≤ t.length) (hb : b ≤ t.length) : mC G d ad M_Mo_nameEnd [.ref (ad k), .int (nI a), .int (nI b)] μ (mRd μ (nI (a + zNr (zSli t a b)))) := by
  have hmk := mLn_le k
  have at' : ∀ i, i < t.length → μ.2 k i = nI (t.getD i 0) := fun i hi => by have := ht i hi; rw [Nat.zero_add] at this; exact this
  refine mC_in [some (.ref (ad k)), some (.int (nI a)), some (.int (nI b)), none] pn_Mo_nameEnd hC.1 rfl (Nat.le_of_ble_eq_true rfl) rfl ?_
  refine sMo_nameEnd_0 (fun z => ?_) (fun z => ?_)
  · have hle := (nI_leI (by omega) (by omega)).mp z
    refine sMo_nameEnd_14 ⟨_, rfl, ?_, rfl⟩
    have : zSli t a b = [] := by unfold zSli; rw [show b - a = 0 by omega]; rfl
    rw [this]; rfl
  · have hlt : a < b := Nat.not_le.mp (fun w => z (nI_le w (by omega)))
    have hne : zSli t a b ≠ [] := fun w => by have := sli_len (a := a) hb; rw [w] at this; simp at this; omega
    have h0 : (zSli t a b).getD 0 0 = t.getD a 0 := sli_get (by omega)
    rw [zNr_eq hne, h0]
    refine sMo_nameEnd_5 hk rfl (by omega) (by omega) (Nat.le_of_ble_eq_true rfl) (by rw [at' a (by omega)]; exact mc_small hC (hlo.at a)) ?_
    rintro r μ1 ⟨rfl, rfl⟩
    by_cases e : zSm (t.getD a 0) = true
    · rw [if_pos e, e]
      refine sMo_nameEnd_11 (fun _ => ?_) (fun z => absurd z (by decide))
      refine sMo_nameEnd_16 ?_
      have fin : ∀ i, a ≤ i → i ≤ b → zTw zNc (zSli t a b) = i - a → mW G d ad M_Mo_nameEnd 47 [some (.ref (ad k)), some (.int (nI a)), some (.int (nI b)), some (.int (nI i))] [] μ1 (mRd μ1 (nI (a + if zTw zNc (zSli t a b) ≤ 8 then zTw zNc (zSli t a b) else 0))) := by
        intro i h1 h2 hz
        rw [hz]
        refine sMo_nameEnd_47 (fun w => ?_) (fun w => ?_)
        · rw [pk_sub h1] at w
          rw [if_pos ((nI_leI (by omega) (by omega)).mp w)]
          exact sMo_nameEnd_59 ⟨_, rfl, by congr 1; omega, rfl⟩
        · rw [pk_sub h1] at w
          rw [if_neg (fun q => w (nI_le q (by omega)))]
          exact sMo_nameEnd_55 ⟨_, rfl, rfl, rfl⟩
      have main : ∀ n i, i + n = b → a ≤ i → (∀ j, j < i - a → zNc ((zSli t a b).getD j 0) = true) → mW G d ad M_Mo_nameEnd 18 [some (.ref (ad k)), some (.int (nI a)), some (.int (nI b)), some (.int (nI i))] [] μ1 (mRd μ1 (nI (a + if zTw zNc (zSli t a b) ≤ 8 then zTw zNc (zSli t a b) else 0))) := by
        intro n
        induction n with
        | zero =>
          intro i hi h1 hall
          refine sMo_nameEnd_18 (fun _ => ?_) (fun z => absurd (nI_le (by omega) (by omega)) z)
          exact fin i h1 (by omega) (tw_eq _ _ _ (by rw [sli_len hb]; omega) hall (fun w => by rw [sli_len hb] at w; omega))
        | succ n ih =>
          intro i hi h1 hall
          have hg : (zSli t a b).getD (i - a) 0 = t.getD i 0 := by rw [sli_get (by omega), show a + (i - a) = i by omega]
          have go : zNc (t.getD i 0) = true → mW G d ad M_Mo_nameEnd 41 [some (.ref (ad k)), some (.int (nI a)), some (.int (nI b)), some (.int (nI i))] [] μ1 (mRd μ1 (nI (a + if zTw zNc (zSli t a b) ≤ 8 then zTw zNc (zSli t a b) else 0))) := fun hc => by
            refine sMo_nameEnd_41 ?_
            rw [nI_add]
            refine ih (i + 1) (by omega) (by omega) (fun j hj => ?_)
            by_cases q : j < i - a
            · exact hall j q
            · rw [show j = i - a by omega, hg]; exact hc
          refine sMo_nameEnd_18 (fun z => absurd z (nI_ge (by omega) (by omega))) (fun _ => ?_)
          refine sMo_nameEnd_23 hk rfl (by omega) (by omega) (Nat.le_of_ble_eq_true rfl) (by rw [at' i (by omega)]; exact mc_small hC (hlo.at i)) ?_
          rintro r μ2 ⟨rfl, rfl⟩
          by_cases e1 : zSm (t.getD i 0) = true
          · rw [e1]
            exact sMo_nameEnd_29 (fun _ => go (by unfold zNc; rw [e1]; rfl)) (fun z => absurd z (by decide))
          · rw [(Bool.not_eq_true _).mp e1]
            refine sMo_nameEnd_29 (fun z => absurd (by decide) z) (fun _ => ?_)
            refine sMo_nameEnd_32 hk rfl (by omega) (by omega) (Nat.le_of_ble_eq_true rfl) (by rw [at' i (by omega)]; exact mc_digit hC (hlo.at i)) ?_
            rintro r μ3 ⟨rfl, rfl⟩
            by_cases e2 : zDg (t.getD i 0) = true
            · rw [e2]
              exact sMo_nameEnd_38 (fun z => absurd z (by decide)) (fun _ => go (by unfold zNc; rw [e2, Bool.or_true]))
            · rw [(Bool.not_eq_true _).mp e2]
              refine sMo_nameEnd_38 (fun _ => ?_) (fun z => absurd (by decide) z)
              refine fin i h1 (by omega) (tw_eq _ _ _ (by rw [sli_len hb]; omega) hall (fun w => ?_))
              rw [hg]
              unfold zNc
              rw [(Bool.not_eq_true _).mp e1, (Bool.not_eq_true _).mp e2]; rfl
      exact main (b - a) a (by omega) (Nat.le_refl _) (fun j hj => by omega)
    · rw [if_neg e, (Bool.not_eq_true _).mp e]
      exact sMo_nameEnd_11 (fun z => absurd (by decide) z) (fun _ => sMo_nameEnd_14 ⟨_, rfl, rfl, rfl⟩)
theorem mc_same (hC : zCs G) (hk : mB k) (hk2 : mB k2) {a b : Nat} (hx : mN (μ.2 k) a x) (hy : mN (μ.2 k2) b y) (hxl : zLo x) (hyl : zLo y) (hl : x.length = y.length) (ha : a + x.length ≤ mLn k) (hb : b + y.length ≤ mLn k2) : mC G d ad M_Mo_same [.ref (ad k), .int (nI a), .ref (ad k2), .int (nI b), .int (nI x.length)] μ (mRd μ (zB1 (x == y))) := by
  have hm1 := mLn_le k
  have hm2 := mLn_le k2
  refine mC_in [some (.ref (ad k)), some (.int (nI a)), some (.ref (ad k2)), some (.int (nI b)), some (.int (nI x.length)), none] pn_Mo_same hC.1 rfl (Nat.le_of_ble_eq_true rfl) rfl ?_
  refine sMo_same_0 ?_
  have main : ∀ n i, i + n = x.length → (∀ j, j < i → x.getD j 0 = y.getD j 0) → mW G d ad M_Mo_same 3 [some (.ref (ad k)), some (.int (nI a)), some (.ref (ad k2)), some (.int (nI b)), some (.int (nI x.length)), some (.int (nI i))] [] μ (mRd μ (zB1 (x == y))) := by
    intro n
    induction n with
    | zero =>
      intro i hi hall
      refine sMo_same_3 (fun _ => ?_) (fun z => absurd (nI_le (by omega) (by omega)) z)
      refine sMo_same_33 rfl ⟨_, rfl, ?_, rfl⟩
      have : x = y := by
        apply List.ext_getElem hl
        intro j h1 h2
        have := hall j (by omega)
        rw [List.getD_eq_getElem?_getD, List.getD_eq_getElem?_getD, List.getElem?_eq_getElem h1, List.getElem?_eq_getElem h2] at this
        exact this
      rw [this]; simp [zB1_t]
    | succ n ih =>
      intro i hi hall
      refine sMo_same_3 (fun z => absurd z (nI_ge (by omega) (by omega))) (fun _ => ?_)
      have e1 := hx i (by omega)
      have e2 := hy i (by omega)
      have l1 := hxl.at i
      have l2 := hyl.at i
      refine sMo_same_10 hk (nI_add _ _) (by omega) hk2 (nI_add _ _) (by omega) (fun z => ?_) (fun z => ?_)
      · rw [e1, e2] at z
        refine sMo_same_27 ?_
        rw [nI_add]
        refine ih (i + 1) (by omega) (fun j hj => ?_)
        by_cases q : j < i
        · exact hall j q
        · rw [show j = i by omega]; exact (nI_eq (by omega) (by omega)).mp z
      · refine sMo_same_25 rfl ⟨_, rfl, ?_, rfl⟩
        have : ¬ x = y := fun q => z (by rw [e1, e2, q])
        rw [beq_eq_false_iff_ne.mpr this]; decide
  exact main x.length 0 (by omega) (fun j hj => by omega)
/-- the PLACE in row r; its MARK -/
def mPw (μ : zMm) (r : Nat) (p : List Nat) : Prop := μ.2 7 r = nI p.length ∧ mN (μ.2 6) (r * 150) p ∧ p.length ≤ 135 ∧ zLo p
def mMk (μ : zMm) (r : Nat) (m : List Nat) : Prop := μ.2 8 r = nI m.length ∧ mN (μ.2 6) (r * 150 + 135) m ∧ m.length ≤ 8 ∧ zLo m
theorem mPw.ra {μ' : zMm} {r : Nat} (h : mPw μ r p) (ha : mRa μ μ' r) : mPw μ' r p := ⟨ha.1.trans h.1, fun j hj => by rw [ha.2.2 j (by have := h.2.2.1; omega)]; exact h.2.1 j hj, h.2.2⟩
theorem mMk.ra {μ' : zMm} {r : Nat} (h : mMk μ r p) (ha : mRa μ μ' r) : mMk μ' r p := ⟨ha.2.1.trans h.1, fun j hj => by rw [Nat.add_assoc, ha.2.2 (135 + j) (by have := h.2.2.1; omega), ← Nat.add_assoc]; exact h.2.1 j hj, h.2.2⟩
theorem mc_copyRow (hC : zCs G) {to fr : Nat} (h1 : to < 66) (h2 : fr < 66) (hne : to ≠ fr) : mC G d ad M_Mo_copyRow [.ref (ad 50), .int (nI to), .int (nI fr)] μ (mPv fun μ' => mFm [] [] [to] μ μ' ∧ (∀ p, mPw μ fr p → mPw μ' to p) ∧ (∀ p, mMk μ fr p → mMk μ' to p)) := by
  refine mC_in [some (.ref (ad 50)), some (.int (nI to)), some (.int (nI fr)), none] pn_Mo_copyRow hC.1 rfl (Nat.le_of_ble_eq_true rfl) rfl ?_
  refine sMo_copyRow_0 ?_
  have main : ∀ n i μ1, i + n = 150 → mFm [] [] [to] μ μ1 → μ1.2 7 = μ.2 7 → μ1.2 8 = μ.2 8 → (∀ j, j < i → μ1.2 6 (to * 150 + j) = (μ.2 6 (fr * 150 + j)).toInt8.toInt32) → mW G d ad M_Mo_copyRow 2 [some (.ref (ad 50)), some (.int (nI to)), some (.int (nI fr)), some (.int (nI i))] [] μ1 (mPv fun μ' => mFm [] [] [to] μ μ' ∧ (∀ p, mPw μ fr p → mPw μ' to p) ∧ (∀ p, mMk μ fr p → mMk μ' to p)) := by
    intro n
    induction n with
    | zero =>
      intro i μ1 hi hF h7 h8 hall
      refine sMo_copyRow_2 (fun _ => ?_) (fun z => absurd (nI_le (by omega) (by omega)) z)
      refine sMo_copyRow_39 rfl (by rw [ml_7]; omega) rfl (by rw [ml_7]; omega) ?_
      refine sMo_copyRow_51 rfl (by rw [ml_8]; omega) rfl (by rw [ml_8]; omega) ?_
      refine sMo_copyRow_63 ⟨rfl, (hF.p7 mem1).p8 mem1, fun p hp => ?_, fun p hp => ?_⟩
      · refine ⟨?_, fun j hj => ?_, hp.2.2⟩
        · dsimp only
          rw [updA_n (by decide), updA_s, pk_us, h7]
          exact hp.1
        · have := hp.2.2.1
          dsimp only
          rw [updA_n (by decide), updA_n (by decide), hall j (by omega), hp.2.1 j hj, n8 (hp.2.2.2.at j)]
      · refine ⟨?_, fun j hj => ?_, hp.2.2⟩
        · dsimp only
          rw [updA_s, pk_us]
          rw [updA_n (by decide), h8]
          exact hp.1
        · have := hp.2.2.1
          dsimp only
          rw [updA_n (by decide), updA_n (by decide), Nat.add_assoc, hall (135 + j) (by omega), ← Nat.add_assoc, hp.2.1 j hj, n8 (hp.2.2.2.at j)]
    | succ n ih =>
      intro i μ1 hi hF h7 h8 hall
      refine sMo_copyRow_2 (fun z => absurd z (nI_ge (by omega) (by omega))) (fun _ => ?_)
      refine sMo_copyRow_9 (i1 := fr * 150 + i) (by rw [pk_mul, nI_add]) (by rw [ml_6]; omega) (i := to * 150 + i) (by rw [pk_mul, nI_add]) (by rw [ml_6]; omega) ?_
      refine sMo_copyRow_33 ?_
      rw [nI_add]
      have hfr : μ1.2 6 (fr * 150 + i) = μ.2 6 (fr * 150 + i) := (hF.2.2 fr (fun z => hne (List.mem_singleton.mp z).symm)).2.2 i (by omega)
      refine ih (i + 1) _ (by omega) (hF.p6 (r0 := to) (j0 := i) mem1 rfl (by omega)) ?_ ?_ (fun j hj => ?_)
      · dsimp only
        rw [updA_n (by decide)]; exact h7
      · dsimp only
        rw [updA_n (by decide)]; exact h8
      · dsimp only
        rw [updA_s]
        by_cases q : j = i
        · rw [q, pk_us, hfr]
        · rw [pk_un (by omega)]
          exact hall j (by omega)
  exact main 150 0 μ (by omega) mFm.rf rfl rfl (fun j hj => by omega)
theorem mc_alike (hC : zCs G) (hd : 1 ≤ d) {a b : Nat} (h1 : a < 66) (h2 : b < 66) (hx : mPw μ a x) (hy : mPw μ b y) : mC G d ad M_Mo_alike [.ref (ad 50), .int (nI a), .int (nI b)] μ (mRd μ (zB1 (x == y))) := by
  have l1 := hx.2.2.1
  have l2 := hy.2.2.1
  refine mC_in [some (.ref (ad 50)), some (.int (nI a)), some (.int (nI b))] pn_Mo_alike hC.1 rfl (Nat.le_of_ble_eq_true rfl) rfl ?_
  refine sMo_alike_0 rfl (by rw [ml_7]; omega) rfl (by rw [ml_7]; omega) (fun z => ?_) (fun z => ?_)
  · rw [hx.1, hy.1] at z
    refine sMo_alike_49 rfl ⟨_, rfl, ?_, rfl⟩
    have : ¬ x = y := fun q => z (by rw [q])
    rw [beq_eq_false_iff_ne.mpr this]; decide
  · rw [hx.1, hy.1] at z
    have hl := (nI_eq (by omega) (by omega)).mp z
    refine sMo_alike_15 rfl (by rw [ml_7]; omega) (by omega) (Nat.le_of_ble_eq_true rfl) (by rw [pk_mul, pk_mul, hx.1]; exact mc_same hC mk_6 mk_6 hx.2.1 hy.2.1 hx.2.2.2 hy.2.2.2 hl (by rw [ml_6]; omega) (by rw [ml_6]; omega)) ?_
    rintro r μ1 ⟨rfl, rfl⟩
    cases hb : (x == y) with
    | true => exact sMo_alike_42 (fun z => absurd z (by decide)) (fun _ => sMo_alike_45 rfl ⟨_, rfl, by decide, rfl⟩)
    | false => exact sMo_alike_42 (fun _ => sMo_alike_49 rfl ⟨_, rfl, by decide, rfl⟩) (fun z => absurd (by decide) z)
theorem zPl_get {A : zA} (hw : zWf A) : (∀ j, 2 ≤ j → j < 2 + A.1.length → (zPl A).getD j 0 ≠ 47) ∧ (zPl A).getD (2 + A.1.length) 0 = 47 ∧ 2 + A.1.length < (zPl A).length := by
  obtain ⟨l, e⟩ := zFlat_hd hw.2.1
  have hpl : zPl A = ([47, 47] ++ A.1) ++ (47 :: (l ++ A.2.2.1)) := by
    unfold zPl
    rw [e, List.append_assoc]
    rfl
  have hl : ([47, 47] ++ A.1).length = 2 + A.1.length := by rw [List.length_append]; rfl
  refine ⟨fun j h1 h2 => ?_, ?_, ?_⟩
  · rw [hpl, getD_app_lo (by rw [hl]; exact h2), getD_app_hi (by simp only [List.length_cons, List.length_nil]; omega)]
    intro z
    exact zNc_no (zNm_all hw.1).2.2 (c := 47) (by decide) (z ▸ getD_mem (by simp only [List.length_cons, List.length_nil]; omega))
  · rw [hpl, getD_app_hi (by rw [hl]; omega), hl, Nat.sub_self]; rfl
  · rw [hpl, List.length_append, hl, List.length_cons]; omega
theorem mc_siteEnd (hC : zCs G) {r : Nat} (hr : r < 66) (h : mPw μ r (zPl A)) (hw : zWf A) : mC G d ad M_Mo_siteEnd [.ref (ad 50), .int (nI r)] μ (mRd μ (nI (2 + A.1.length))) := by
  obtain ⟨g1, g2, g3⟩ := zPl_get hw
  have hl := h.2.2.1
  refine mC_in [some (.ref (ad 50)), some (.int (nI r)), none] pn_Mo_siteEnd hC.1 rfl (Nat.le_of_ble_eq_true rfl) rfl ?_
  refine sMo_siteEnd_0 ?_
  have main : ∀ n i, i + n = 2 + A.1.length → 2 ≤ i → mW G d ad M_Mo_siteEnd 2 [some (.ref (ad 50)), some (.int (nI r)), some (.int (nI i))] [] μ (mRd μ (nI (2 + A.1.length))) := by
    intro n
    induction n with
    | zero =>
      intro i hi h2
      refine sMo_siteEnd_2 (i1 := r * 150 + i) (by rw [pk_mul, nI_add]) (by rw [ml_6]; omega) (fun _ => sMo_siteEnd_25 ⟨_, rfl, by rw [show i = 2 + A.1.length by omega], rfl⟩) (fun z => absurd ?_ z)
      rw [h.2.1 i (by omega), show i = 2 + A.1.length by omega, g2]
    | succ n ih =>
      intro i hi h2
      refine sMo_siteEnd_2 (i1 := r * 150 + i) (by rw [pk_mul, nI_add]) (by rw [ml_6]; omega) (fun z => ?_) (fun _ => ?_)
      · rw [h.2.1 i (by omega)] at z
        have := h.2.2.2.at i
        exact absurd ((nI_eq (by omega) (by omega)).mp z) (g1 i h2 (by omega))
      · refine sMo_siteEnd_19 ?_
        rw [nI_add]
        exact ih (i + 1) (by omega) (by omega)
  exact main A.1.length 2 (by omega) (Nat.le_refl _)
theorem zPl_q {A : zA} (hw : zWf A) : zTw (zNo 63) (zPl A) = 2 + A.1.length + (zFlat A.2.1).length := by
  have e : zPl A = ([47, 47] ++ A.1 ++ zFlat A.2.1) ++ A.2.2.1 := rfl
  rw [e, tw_app]
  · rw [List.length_append, List.length_append]; rfl
  · intro a ha
    apply zNo_iff.mpr
    intro z
    rw [z] at ha
    rcases List.mem_append.mp ha with q | q
    · rcases List.mem_append.mp q with q | q
      · exact absurd q (by decide)
      · exact zNc_no (zNm_all hw.1).2.2 (c := 63) (by decide) q
    · exact hw.noq q
  · exact hw.qy.imp id (fun ⟨l, e⟩ => ⟨63, l, e, by decide⟩)
theorem mc_queryAt (hC : zCs G) {r : Nat} (hr : r < 66) (h : mPw μ r (zPl A)) (hw : zWf A) : mC G d ad M_Mo_queryAt [.ref (ad 50), .int (nI r)] μ (mRd μ (nI (2 + A.1.length + (zFlat A.2.1).length))) := by
  have hl := h.2.2.1
  rw [← zPl_q hw]
  have hle := tw_le (zNo 63) (zPl A)
  refine mC_in [some (.ref (ad 50)), some (.int (nI r)), none] pn_Mo_queryAt hC.1 rfl (Nat.le_of_ble_eq_true rfl) rfl ?_
  refine sMo_queryAt_0 ?_
  have main : ∀ n i, i + n = zTw (zNo 63) (zPl A) → mW G d ad M_Mo_queryAt 2 [some (.ref (ad 50)), some (.int (nI r)), some (.int (nI i))] [] μ (mRd μ (nI (zTw (zNo 63) (zPl A)))) := by
    intro n
    induction n with
    | zero =>
      intro i hi
      have hi' : i = zTw (zNo 63) (zPl A) := (by omega)
      have ret : mW G d ad M_Mo_queryAt 35 [some (.ref (ad 50)), some (.int (nI r)), some (.int (nI i))] [] μ (mRd μ (nI (zTw (zNo 63) (zPl A)))) := sMo_queryAt_35 ⟨_, rfl, by rw [hi'], rfl⟩
      refine sMo_queryAt_2 rfl (by rw [ml_7]; omega) (fun _ => ret) (fun z => ?_)
      rw [h.1] at z
      have hlt : i < (zPl A).length := Nat.not_le.mp (fun w => z (nI_le w (by omega)))
      refine sMo_queryAt_12 (i1 := r * 150 + i) (by rw [pk_mul, nI_add]) (by rw [ml_6]; omega) (fun _ => ret) (fun z => absurd ?_ z)
      rw [h.2.1 i hlt]
      have := tw_end (zNo 63) (zPl A) (by omega)
      rw [← hi'] at this
      rw [zNo_f.mp this]
    | succ n ih =>
      intro i hi
      refine sMo_queryAt_2 rfl (by rw [ml_7]; omega) (fun z => ?_) (fun _ => ?_)
      · rw [h.1] at z
        exact absurd z (nI_ge (by omega) (by omega))
      · refine sMo_queryAt_12 (i1 := r * 150 + i) (by rw [pk_mul, nI_add]) (by rw [ml_6]; omega) (fun z => ?_) (fun _ => ?_)
        · rw [h.2.1 i (by omega)] at z
          have := h.2.2.2.at i
          exact absurd ((nI_eq (by omega) (by omega)).mp z) (zNo_iff.mp (tw_at (zNo 63) (zPl A) i (by omega)))
        · refine sMo_queryAt_29 ?_
          rw [nI_add]
          exact ih (i + 1) (by omega)
  exact main (zTw (zNo 63) (zPl A)) 0 (by omega)
theorem zLo_app {x y : List Nat} (h1 : zLo x) (h2 : zLo y) : zLo (x ++ y) := fun c hc => (List.mem_append.mp hc).elim (h1 c) (h2 c)
theorem zLo_1 {c : Nat} (h : c < 128) : zLo [c] := fun x hx => by rw [List.mem_singleton.mp hx]; exact h
theorem mN_app {f : Nat → Int32} {off : Nat} {x y : List Nat} : mN f off (x ++ y) ↔ mN f off x ∧ mN f (off + x.length) y := by
  constructor
  · intro h
    refine ⟨fun j hj => ?_, fun j hj => ?_⟩
    · rw [h j (by rw [List.length_append]; omega), getD_app_lo hj]
    · rw [Nat.add_assoc, h (x.length + j) (by rw [List.length_append]; omega), getD_app_hi (by omega), show x.length + j - x.length = j by omega]
  · rintro ⟨h1, h2⟩ j hj
    rw [List.length_append] at hj
    by_cases q : j < x.length
    · rw [h1 j q, getD_app_lo q]
    · have := h2 (j - x.length) (by omega)
      rw [getD_app_hi (by omega), ← this]
      congr 1
      omega
theorem mc_put (hC : zCs G) {r : Nat} (hr : r < 66) (h : mPw μ r p) (hp : p.length < 135) (hc : c < 128) : mC G d ad M_Mo_put [.ref (ad 50), .int (nI r), .int (nI c)] μ (mPv fun μ' => mPw μ' r (p ++ [c]) ∧ mFm [] [] [r] μ μ' ∧ μ'.2 8 = μ.2 8) := by
  refine mC_in [some (.ref (ad 50)), some (.int (nI r)), some (.int (nI c))] pn_Mo_put hC.1 rfl (Nat.le_of_ble_eq_true rfl) rfl ?_
  refine sMo_put_0 rfl (by rw [ml_7]; omega) (i := r * 150 + p.length) (by rw [h.1, pk_mul, nI_add]) (by rw [ml_6]; omega) ?_
  refine sMo_put_19 rfl (by rw [ml_7]; omega) rfl (by rw [ml_7]; omega) ?_
  refine sMo_put_29 ⟨rfl, ⟨?_, fun j hj => ?_, ?_, zLo_app h.2.2.2 (zLo_1 hc)⟩, (mFm.rf.p6 (r0 := r) (j0 := p.length) mem1 rfl (by omega)).p7 mem1, ?_⟩
  · dsimp only
    rw [updA_s, pk_us]
    rw [updA_n (by decide), h.1, nI_add, List.length_append]; rfl
  · rw [List.length_append] at hj
    simp only [List.length_cons, List.length_nil] at hj
    dsimp only
    rw [updA_n (by decide), updA_s]
    by_cases q : j = p.length
    · rw [q, pk_us, n8 hc, n8 hc, getD_app_hi (Nat.le_refl _), Nat.sub_self]; rfl
    · rw [pk_un (by omega), h.2.1 j (by omega), getD_app_lo (by omega)]
  · rw [List.length_append]; simp only [List.length_cons, List.length_nil]; omega
  · dsimp only
    rw [updA_n (by decide), updA_n (by decide)]
end MB
