theorem sli_drop {t : List Nat} {a b j : Nat} : (zSli t a b).drop j = zSli t (a + j) b := by
  unfold zSli
  rw [List.drop_take, List.drop_drop]
  congr 1
  omega
theorem sli_all {t : List Nat} (h : zLo t) (a : Nat) : t.getD a 0 < 128 := h.at a
/-- bytes of a slice in the memory -/
theorem mN_sli {f : Nat → Int32} {t : List Nat} (h : mN f 0 t) {a b : Nat} (hb : b ≤ t.length) : mN f a (zSli t a b) := fun j hj => by
  rw [sli_len hb] at hj
  have := h (a + j) (by omega)
  rw [Nat.zero_add] at this
  rw [this, sli_get hj]
theorem sli_take {t : List Nat} {a b n : Nat} (h : a + n ≤ b) : (zSli t a b).take n = zSli t a (a + n) := by
  unfold zSli
  rw [List.take_take, Nat.min_eq_left (by omega), Nat.add_sub_cancel_left]
section MD
variable {G : zG} {d : Nat} {ad : Nat → Nat} {μ : zMm} {c k a to p : Nat} {t x y rest : List Nat} {A B : zA} {s : List (List Nat)}
/-- what the model holds while it reads: the text, the segments, how far it is -/
def mRe (μ : zMm) (t : List Nat) (s : List (List Nat)) (p : Nat) : Prop := mN (μ.2 2) 0 t ∧ zLo t ∧ t.length ≤ 2000 ∧ mSgs μ s ∧ μ.1 15 = nI p
theorem mRe.tx {I Ar Rw : List Nat} {μ' : zMm} (h : mRe μ t s p) (f : mFm I Ar Rw μ μ') (h2 : 2 ∉ Ar) : mN (μ'.2 2) 0 t := by
  rw [f.2.1 2 h2 (by decide) (by decide) (by decide)]
  exact h.1
theorem mc_oneSegment (hC : zCs G) (hd : 2 ≤ d) (h : mRe μ t s p) (hto : to ≤ t.length) (hp : p ≤ to) (hb1 : s.length < 2099) (hb2 : s.flatten.length + (to - p) ≤ 2200) (hx : zSli t p to = x ++ rest) (hxs : x.all zSg = true) (hr : rest = [] ∨ ∃ c l, rest = c :: l ∧ zSg c = false) : mC G d ad M_Mo_oneSegment [.ref (ad 50), .ref (ad 2), .int (nI to)] μ (mPi fun r μ' => (12 < x.length → r = 0) ∧ (x.length ≤ 12 → r = 1 ∧ mRe μ' t (zSt s x) (p + x.length) ∧ μ'.1 14 = zB1 (zDot x)) ∧ mFm [12, 14, 15] [9, 10, 11] [] μ μ') := by
  obtain ⟨h1, h2, h3, h4, h5⟩ := id h
  have hlx : x.length + rest.length = to - p := by
    have := congrArg List.length hx
    rw [sli_len hto, List.length_append] at this
    omega
  have at' : ∀ i, i < t.length → μ.2 2 i = nI (t.getD i 0) := fun i hi => by have := h1 i hi; rw [Nat.zero_add] at this; exact this
  have gx : ∀ j, j < x.length → t.getD (p + j) 0 = x.getD j 0 := fun j hj => by
    rw [← sli_get (b := to) (by omega), hx, getD_app_lo hj]
  refine mC_in [some (.ref (ad 50)), some (.ref (ad 2)), some (.int (nI to)), none] pn_Mo_oneSegment hC.1 rfl (Nat.le_of_ble_eq_true rfl) rfl ?_
  refine sMo_oneSegment_0 ?_
  rw [h5]
  have fin : mW G d ad M_Mo_oneSegment 25 [some (.ref (ad 50)), some (.ref (ad 2)), some (.int (nI to)), some (.int (nI (p + x.length)))] [] μ (mPi fun r μ' => (12 < x.length → r = 0) ∧ (x.length ≤ 12 → r = 1 ∧ mRe μ' t (zSt s x) (p + x.length) ∧ μ'.1 14 = zB1 (zDot x)) ∧ mFm [12, 14, 15] [9, 10, 11] [] μ μ') := by
    have e : nI (p + x.length) - μ.1 15 = nI x.length := by rw [h5, pk_sub (by omega)]; congr 1; omega
    refine sMo_oneSegment_25 (fun z => ?_) (fun z => ?_)
    · rw [e] at z
      have hle := (nI_leI (by omega) (by omega)).mp z
      have hxt : x = zSli t p (p + x.length) := by
        rw [← sli_take (b := to) (by omega), hx, List.take_left]
      refine sMo_oneSegment_38 (by omega) (Nat.le_of_ble_eq_true rfl) (by rw [e, h5]; exact mc_segment hC mk_2 (by decide) h4 (by rw [hxt]; exact mN_sli h1 (by omega)) (by rw [hxt]; exact sli_lo h2) (by rw [ml_2]; omega) hb1 (by omega)) ?_
      rintro μ1 ⟨g1, g2, g3⟩
      refine sMo_oneSegment_53 ?_
      refine sMo_oneSegment_58 rfl ⟨_, rfl, fun z => absurd z (by omega), fun _ => ⟨by decide, ⟨?_, h2, h3, ?_, pu_s⟩, ?_⟩, (g3.mono (fun k h => by revert h; simp only [List.mem_cons, List.not_mem_nil, or_false]; omega) (fun _ h => h) (fun _ h => h)).pi (by decide)⟩
      · show mN (μ1.2 2) 0 t
        rw [g3.2.1 2 (by decide) (by decide) (by decide) (by decide)]
        exact h1
      · refine ⟨?_, g1.2⟩
        dsimp only
        rw [pk_un (by decide)]; exact g1.1
      · dsimp only
        rw [pk_un (by decide)]; exact g2
    · rw [e] at z
      have hgt : 12 < x.length := Nat.not_le.mp (fun w => z (nI_le w (by omega)))
      exact sMo_oneSegment_36 rfl ⟨_, rfl, fun _ => by decide, fun w => absurd w (by omega), mFm.rf⟩
  have main : ∀ n j, j + n = x.length → mW G d ad M_Mo_oneSegment 5 [some (.ref (ad 50)), some (.ref (ad 2)), some (.int (nI to)), some (.int (nI (p + j)))] [] μ (mPi fun r μ' => (12 < x.length → r = 0) ∧ (x.length ≤ 12 → r = 1 ∧ mRe μ' t (zSt s x) (p + x.length) ∧ μ'.1 14 = zB1 (zDot x)) ∧ mFm [12, 14, 15] [9, 10, 11] [] μ μ') := by
    intro n
    induction n with
    | zero =>
      intro j hj
      have hj' : j = x.length := (by omega)
      subst hj'
      by_cases q : to ≤ p + x.length
      · exact sMo_oneSegment_5 (fun _ => fin) (fun z => absurd (nI_le q (by omega)) z)
      · refine sMo_oneSegment_5 (fun z => absurd z (nI_ge (by omega) (by omega))) (fun _ => ?_)
        rcases hr with hr | ⟨c0, l, hr, hc0⟩
        · rw [hr] at hlx; simp at hlx; omega
        · have hc : t.getD (p + x.length) 0 = c0 := by
            rw [← sli_get (b := to) (by omega), hx, getD_app_hi (Nat.le_refl _), Nat.sub_self, hr]; rfl
          have hlo := h2.at (p + x.length)
          rw [hc] at hlo
          refine sMo_oneSegment_10 mk_2 rfl (by rw [ml_2]; omega) (by omega) (Nat.le_of_ble_eq_true rfl) (by rw [at' _ (by omega), hc]; exact mc_segm hC (by omega) hlo) ?_
          rintro r μ1 ⟨rfl, rfl⟩
          rw [hc0]
          exact sMo_oneSegment_16 (fun _ => fin) (fun z => absurd (by decide) z)
    | succ n ih =>
      intro j hj
      refine sMo_oneSegment_5 (fun z => absurd z (nI_ge (by omega) (by omega))) (fun _ => ?_)
      have hlo := h2.at (p + j)
      refine sMo_oneSegment_10 mk_2 rfl (by rw [ml_2]; omega) (by omega) (Nat.le_of_ble_eq_true rfl) (by rw [at' _ (by omega)]; exact mc_segm hC (by omega) hlo) ?_
      rintro r μ1 ⟨rfl, rfl⟩
      rw [gx j (by omega), getD_all hxs (by omega)]
      refine sMo_oneSegment_16 (fun z => absurd z (by decide)) (fun _ => sMo_oneSegment_19 ?_)
      rw [nI_add]
      exact ih (j + 1) (by omega)
  exact main x.length 0 (by omega)
def zSgp (xs s : List (List Nat)) (p : Nat) (w : Bool) (t : List Nat) (μ : zMm) (r : Int32) (μ' : zMm) : Prop := (¬ (∀ x ∈ xs, x.length ≤ 12) → r = 0) ∧ ((∀ x ∈ xs, x.length ≤ 12) → r = 1 ∧ mRe μ' t (xs.foldl zSt s) (p + (zFlat xs).length) ∧ μ'.1 14 = zB1 (zLw w xs)) ∧ mFm [12, 14, 15] [9, 10, 11] [] μ μ'
theorem mc_segments (hC : zCs G) (hd : 3 ≤ d) (hto : to ≤ t.length) (hr : rest = [] ∨ ∃ c l, rest = c :: l ∧ c ≠ 47) : ∀ {xs s : List (List Nat)} {p : Nat} {w : Bool} {μ : zMm}, (xs ≠ [] → rest = [] ∨ ∃ c l, rest = c :: l ∧ zSg c = false) → mRe μ t s p → p ≤ to → s.length + xs.length < 2099 → s.flatten.length + (to - p) ≤ 2200 → zSli t p to = zFlat xs ++ rest → (∀ x ∈ xs, x.all zSg = true) → μ.1 14 = zB1 w → mC G d ad M_Mo_segments [.ref (ad 50), .ref (ad 2), .int (nI to)] μ (mPi fun r μ' => zSgp xs s p w t μ r μ') := by
  intro xs s p w μ hr2 h hp hb1 hb2 hx hxs hw
  refine mC_in [some (.ref (ad 50)), some (.ref (ad 2)), some (.int (nI to))] pn_Mo_segments hC.1 rfl (Nat.le_of_ble_eq_true rfl) rfl ?_
  have main : ∀ (xs s : List (List Nat)) (p : Nat) (w : Bool) (μ1 : zMm), (xs ≠ [] → rest = [] ∨ ∃ c l, rest = c :: l ∧ zSg c = false) → mRe μ1 t s p → p ≤ to → s.length + xs.length < 2099 → s.flatten.length + (to - p) ≤ 2200 → zSli t p to = zFlat xs ++ rest → (∀ x ∈ xs, x.all zSg = true) → μ1.1 14 = zB1 w → ∀ P : Option Value → zMm → Prop, (∀ r μ', zSgp xs s p w t μ1 r μ' → P (some (.int r)) μ') → mW G d ad M_Mo_segments 0 [some (.ref (ad 50)), some (.ref (ad 2)), some (.int (nI to))] [] μ1 P := by
    intro xs
    induction xs with
    | nil =>
      intro s p w μ1 hr2 h hp hb1 hb2 hx hxs hw P hP
      obtain ⟨h1, h2, h3, h4, h5⟩ := id h
      have at' : ∀ i, i < t.length → μ1.2 2 i = nI (t.getD i 0) := fun i hi => by have := h1 i hi; rw [Nat.zero_add] at this; exact this
      have fin : mW G d ad M_Mo_segments 40 [some (.ref (ad 50)), some (.ref (ad 2)), some (.int (nI to))] [] μ1 P := sMo_segments_40 rfl (hP _ _ ⟨fun z => absurd (fun x hx => by cases hx) z, fun _ => ⟨by decide, h, hw⟩, mFm.rf⟩)
      by_cases q : to ≤ p
      · exact sMo_segments_0 (fun _ => fin) (fun z => absurd (show nI to ≤ μ1.1 15 by rw [h5]; exact nI_le q (by omega)) z)
      · refine sMo_segments_0 (fun z => absurd (show nI to ≤ nI p by rw [← h5]; exact z) (nI_ge (by omega) (by omega))) (fun _ => ?_)
        rcases hr with hr | ⟨c0, l, hr, hc0⟩
        · have := congrArg List.length hx
          rw [sli_len hto, hr] at this
          simp [zFlat] at this
          omega
        · have hc : t.getD p 0 = c0 := by
            have := sli_get (t := t) (a := p) (b := to) (j := 0) (by omega)
            rw [Nat.add_zero] at this
            rw [← this, hx, hr]; rfl
          refine sMo_segments_8 mk_2 (i1 := p) h5 (by rw [ml_2]; omega) (fun _ => fin) (fun z => ?_)
          rw [at' p (by omega), hc] at z
          have hlo := h2.at p
          rw [hc] at hlo
          exact absurd ((nI_eq (by omega) (by omega)).mp z) hc0
    | cons x xs ih =>
      intro s p w μ1 hr2 h hp hb1 hb2 hx hxs hw P hP
      obtain ⟨h1, h2, h3, h4, h5⟩ := id h
      have at' : ∀ i, i < t.length → μ1.2 2 i = nI (t.getD i 0) := fun i hi => by have := h1 i hi; rw [Nat.zero_add] at this; exact this
      rw [List.length_cons] at hb1
      have hx' : zSli t p to = 47 :: (x ++ (zFlat xs ++ rest)) := by rw [hx, zFlat_cons]; simp only [List.cons_append, List.append_assoc]
      have hlen := congrArg List.length hx'
      rw [sli_len hto, List.length_cons, List.length_append] at hlen
      have hc : t.getD p 0 = 47 := by
        have := sli_get (t := t) (a := p) (b := to) (j := 0) (by omega)
        rw [Nat.add_zero] at this
        rw [← this, hx']; rfl
      refine sMo_segments_0 (fun z => absurd (show nI to ≤ nI p by rw [← h5]; exact z) (nI_ge (by omega) (by omega))) (fun _ => ?_)
      refine sMo_segments_8 mk_2 (i1 := p) h5 (by rw [ml_2]; omega) (fun z => absurd (show μ1.2 2 p = nI 47 by rw [at' p (by omega), hc]) z) (fun _ => ?_)
      refine sMo_segments_19 ?_
      have hRe : mRe (upd μ1.1 15 (μ1.1 15 + nI 1), μ1.2) t s (p + 1) := by
        refine ⟨h1, h2, h3, ⟨?_, h4.2⟩, ?_⟩
        · dsimp only
          rw [pk_un (by decide)]; exact h4.1
        · dsimp only
          rw [pk_us, h5, nI_add]
      have hx1 : zSli t (p + 1) to = x ++ (zFlat xs ++ rest) := by rw [← sli_drop, hx']; rfl
      have hr1 : zFlat xs ++ rest = [] ∨ ∃ c l, zFlat xs ++ rest = c :: l ∧ zSg c = false := by
        cases xs with
        | nil =>
          rcases hr2 (by simp) with hr | ⟨c0, l, hr, hc0⟩
          · exact Or.inl (by rw [hr]; rfl)
          · exact Or.inr ⟨c0, l, by rw [hr]; rfl, hc0⟩
        | cons y l => exact Or.inr ⟨47, y ++ zFlat l ++ rest, by rw [zFlat_cons]; rfl, by decide⟩
      refine sMo_segments_29 (by omega) (Nat.le_of_ble_eq_true rfl) (mc_oneSegment hC (by omega) hRe hto (by omega) (by omega) (by omega) hx1 (hxs x List.mem_cons_self) hr1) ?_
      rintro r μ2 ⟨g1, g2, g3⟩
      have hF : mFm [12, 14, 15] [9, 10, 11] [] μ1 μ2 := (mFm.rf.pi (by decide)).tr g3
      by_cases q : x.length ≤ 12
      · obtain ⟨rfl, g4, g5⟩ := g2 q
        refine sMo_segments_35 (fun _ => ?_) (fun z => absurd z (by decide))
        have hfl := fold_len (xs := [x]) (s := s)
        have hfl2 : (zSt s x).length ≤ s.length + 1 ∧ (zSt s x).flatten.length ≤ s.flatten.length + x.length := by
          have := hfl
          simp only [List.foldl_cons, List.foldl_nil, List.length_cons, List.length_nil, List.flatten_cons, List.flatten_nil, List.append_nil] at this
          exact this
        have hsl : zSli t (p + 1 + x.length) to = zFlat xs ++ rest := by rw [← sli_drop, hx1, List.drop_left]
        refine ih (zSt s x) (p + 1 + x.length) (zDot x) μ2 (fun _ => hr2 (by simp)) g4 (by omega) (by omega) (by omega) hsl (fun y hy => hxs y (List.mem_cons_of_mem _ hy)) g5 P (fun r μ3 hk => hP r μ3 ?_)
        obtain ⟨k1, k2, k3⟩ := hk
        refine ⟨fun z => k1 (fun w => z (fun y hy => ?_)), fun z => ?_, hF.tr k3⟩
        · rcases List.mem_cons.mp hy with rfl | hy
          · exact q
          · exact w y hy
        · obtain ⟨e1, e2, e3⟩ := k2 (fun y hy => z y (List.mem_cons_of_mem _ hy))
          refine ⟨e1, ?_, ?_⟩
          · rw [List.foldl_cons, zFlat_cons, List.length_append, List.length_cons, show p + (x.length + 1 + (zFlat xs).length) = p + 1 + x.length + (zFlat xs).length by omega]
            exact e2
          · rw [zLw_cons]; exact e3
      · have := g1 (by omega)
        subst this
        refine sMo_segments_35 (fun z => absurd rfl z) (fun _ => sMo_segments_38 rfl (hP _ _ ⟨fun _ => by decide, fun z => absurd (z x List.mem_cons_self) q, hF⟩))
  exact main xs s p w μ hr2 h hp hb1 hb2 hx hxs hw _ (fun r μ' hq => ⟨r, rfl, hq⟩)
end MD
