/-! The desk on the heap: seven regions of cells that change (itself, tape, what is written, what was sent, answers, cookies, kept), the eighth is the model's. -/
def zRL (R : Nat → List Nat) : List Nat := (List.range 8).flatMap R
def zR6 (R : Nat → List Nat) : List Nat := (List.range 7).flatMap R
theorem zRL_mem {R : Nat → List Nat} {i q : Nat} (hi : i < 8) (h : q ∈ R i) : q ∈ zRL R := List.mem_flatMap.mpr ⟨i, List.mem_range.mpr hi, h⟩
theorem zRL_of {R : Nat → List Nat} {q : Nat} (h : q ∈ zRL R) : ∃ i, i < 8 ∧ q ∈ R i := by
  obtain ⟨i, hi, hq⟩ := List.mem_flatMap.mp h
  exact ⟨i, List.mem_range.mp hi, hq⟩
theorem zR6_mem {R : Nat → List Nat} {i q : Nat} (hi : i < 7) (h : q ∈ R i) : q ∈ zR6 R := List.mem_flatMap.mpr ⟨i, List.mem_range.mpr hi, h⟩
theorem zR6_of {R : Nat → List Nat} {q : Nat} (h : q ∈ zR6 R) : ∃ i, i < 7 ∧ q ∈ R i := by
  obtain ⟨i, hi, hq⟩ := List.mem_flatMap.mp h
  exact ⟨i, List.mem_range.mp hi, hq⟩
theorem zR6_L {R : Nat → List Nat} {q : Nat} (h : q ∈ zR6 R) : q ∈ zRL R := by
  obtain ⟨i, hi, hq⟩ := zR6_of h
  exact zRL_mem (by omega) hq
def zRg (G : zG) (H : Heap) (R : Nat → List Nat) : Prop := zLi G H (zRL R) ∧ ∀ i j, i < 8 → j < 8 → i ≠ j → ∀ q ∈ R i, q ∉ R j
def zRs (c : Nat) (R R' : Nat → List Nat) (H H1 : Heap) : Prop := (∀ i, i ≠ c → R' i = R i) ∧ (∀ q ∈ R c, q ∈ R' c) ∧ ∀ q ∈ R' c, q ∈ R c ∨ (H.size ≤ q ∧ q < H1.size)
theorem zRs.rf {c : Nat} {R : Nat → List Nat} {H H1 : Heap} : zRs c R R H H1 := ⟨fun _ _ => rfl, fun _ h => h, fun _ h => Or.inl h⟩
theorem zRs.L {c : Nat} {R R' : Nat → List Nat} {H H1 : Heap} (h : zRs c R R' H H1) : ∀ q ∈ zRL R', q ∈ zRL R ∨ H.size ≤ q := by
  intro q hq
  obtain ⟨i, hi, hq⟩ := zRL_of hq
  by_cases e : i = c
  · subst e
    rcases h.2.2 q hq with w | w
    · exact Or.inl (zRL_mem hi w)
    · exact Or.inr w.1
  · rw [h.1 i e] at hq
    exact Or.inl (zRL_mem hi hq)
theorem zRs.six {c : Nat} {R R' : Nat → List Nat} {H H1 : Heap} (h : zRs c R R' H H1) : ∀ q ∈ zR6 R', q ∈ zR6 R ∨ H.size ≤ q := by
  intro q hq
  obtain ⟨i, hi, hq⟩ := zR6_of hq
  by_cases e : i = c
  · subst e
    rcases h.2.2 q hq with w | w
    · exact Or.inl (zR6_mem hi w)
    · exact Or.inr w.1
  · rw [h.1 i e] at hq
    exact Or.inl (zR6_mem hi hq)
theorem zRs.sub {c : Nat} {R R' : Nat → List Nat} {H H1 : Heap} (h : zRs c R R' H H1) (i : Nat) : ∀ q ∈ R i, q ∈ R' i := by
  intro q hq
  by_cases e : i = c
  · subst e; exact h.2.1 q hq
  · rw [h.1 i e]; exact hq
theorem zRg.step {G : zG} {c : Nat} {R R' : Nat → List Nat} {H H1 : Heap} (h : zRg G H R) (hc : c < 8) (hs : zRs c R R' H H1) (hm : H.size ≤ H1.size) (ho : zOk G H) : zRg G H1 R' := by
  refine ⟨fun q hq => ?_, fun i j hi hj hij q hq => ?_⟩
  · obtain ⟨i, hi, hq⟩ := zRL_of hq
    have old : q ∈ R i → zFr G q ∧ q < H1.size := fun w => ⟨(h.1 q (zRL_mem hi w)).1, Nat.lt_of_lt_of_le (h.1 q (zRL_mem hi w)).2 hm⟩
    by_cases e : i = c
    · subst e
      rcases hs.2.2 q hq with w | w
      · exact old w
      · exact ⟨Nat.le_trans ho.1 w.1, w.2⟩
    · rw [hs.1 i e] at hq
      exact old hq
  · by_cases e : i = c
    · subst e
      have ej : j ≠ i := fun z => hij z.symm
      rw [hs.1 j ej]
      rcases hs.2.2 q hq with w | w
      · exact h.2 i j hi hj hij q w
      · intro z
        have := (h.1 q (zRL_mem hj z)).2
        omega
    · rw [hs.1 i e] at hq
      by_cases e2 : j = c
      · subst e2
        intro z
        rcases hs.2.2 q z with w | w
        · exact h.2 i j hi hj hij q hq w
        · have := (h.1 q (zRL_mem hi hq)).2
          omega
      · rw [hs.1 j e2]
        exact h.2 i j hi hj hij q hq
def zRa (R : Nat → List Nat) (c e : Nat) : Nat → List Nat := fun i => if i = c then e :: R c else R i
theorem zRa_s {R : Nat → List Nat} {c e : Nat} : zRa R c e c = e :: R c := if_pos rfl
theorem zRa_n {R : Nat → List Nat} {c e i : Nat} (h : i ≠ c) : zRa R c e i = R i := if_neg h
theorem zRs_add {R : Nat → List Nat} {c e : Nat} {H H1 : Heap} (h : e ∈ R c ∨ (H.size ≤ e ∧ e < H1.size)) : zRs c R (zRa R c e) H H1 := by
  refine ⟨fun i hi => zRa_n hi, fun q hq => by rw [zRa_s]; exact List.mem_cons_of_mem _ hq, fun q hq => ?_⟩
  rw [zRa_s] at hq
  rcases List.mem_cons.mp hq with rfl | hq
  · exact h
  · exact Or.inl hq
/-- what the desk's own fields point at -/
def zXi (G : zG) (L : List Nat) (H : Heap) (vb cm fm : Nat) (wr wf : Value) (b : zA) (ra : Option zA) (C : zCC) : Prop := zAd G L H vb b ∧ zOa G L H wr ra ∧ zAnO G L H cm C.1 ∧ zOa G L H wf C.2.1 ∧ zTx G L H fm C.2.2.1
theorem zXi.st {G : zG} {L L2 S : List Nat} {H H1 : Heap} {vb cm fm : Nat} {wr wf : Value} {b : zA} {ra : Option zA} {C : zCC} (h : zXi G L H vb cm fm wr wf b ra C) (m : zMo S H H1) (hS : ∀ q ∈ S, q ∈ L ∨ H.size ≤ q) (hL : ∀ q ∈ L2, q ∈ L ∨ H.size ≤ q) : zXi G L2 H1 vb cm fm wr wf b ra C := ⟨h.1.st m hS hL, h.2.1.st m hS hL, h.2.2.1.st m hS hL, h.2.2.2.1.st m hS hL, h.2.2.2.2.st m hS hL⟩
def zXv (K : Nat → Nat) (vb cm fm : Nat) (wr wf : Value) (clk rq fo : Nat) (kp : Bool) : List Value := [.ref (K 1), .ref (K 2), .ref (K 9), .ref (K 10), .ref (K 4), .ref (K 7), .ref (K 8), .ref (K 3), .ref vb, .int (nI clk), .int (nI rq), wr, .ref cm, wf, .ref fm, .int (nI fo), .int (zB1 kp)]
def zXo (G : zG) (K : Nat → Nat) (L : List Nat) (H : Heap) (b : zA) (clk rq : Nat) (ra : Option zA) (C : zCC) : Prop := ∃ (vb cm fm : Nat) (wr wf : Value), zObj G H (K 0) 0 (zXv K vb cm fm wr wf clk rq C.2.2.2.1 C.2.2.2.2) ∧ zXi G L H vb cm fm wr wf b ra C
def zFx (G : zG) (K : Nat → Nat) (L : List Nat) (H : Heap) : Prop := K 7 ∉ L ∧ zIs G H (K 7) 6 ∧ zFd G H (K 7) 6 0 (.ref (K 5)) ∧ K 8 ∉ L ∧ zIs G H (K 8) 7 ∧ zFd G H (K 8) 7 0 (.ref (K 6)) ∧ zAd G L H (K 9) zHome ∧ zAnO G L H (K 10) zEmp
theorem zFx.st {G : zG} {K : Nat → Nat} {L L2 S : List Nat} {H H1 : Heap} (h : zFx G K L H) (m : zMo S H H1) (hS : ∀ q ∈ S, q ∈ L ∨ H.size ≤ q) (hL : ∀ q ∈ L2, q ∈ L ∨ H.size ≤ q) : zFx G K L2 H1 := by
  obtain ⟨h1, h2, h3, h4, h5, h6, h7, h8⟩ := h
  have e1 := h2.lt
  have e2 := h5.lt
  have a1 : K 7 ∉ S := fun z => (hS _ z).elim h1 (fun w => by omega)
  have a2 : K 8 ∉ S := fun z => (hS _ z).elim h4 (fun w => by omega)
  exact ⟨fun z => (hL _ z).elim h1 (fun w => by omega), h2.mo m a1, h3.mo m a1, fun z => (hL _ z).elim h4 (fun w => by omega), h5.mo m a2, h6.mo m a2, h7.st m hS hL, h8.st m hS hL⟩
def zSr (G : zG) (H : Heap) (r : List Nat) (a m : Nat) (t : List Nat) : Prop := a ∈ r ∧ 16 ≤ m ∧ m ≤ 8000 ∧ ∃ v, v ∈ r ∧ zSB G H a v m t
theorem zSr.st {G : zG} {S r r2 : List Nat} {H H1 : Heap} {a m : Nat} {t : List Nat} (h : zSr G H r a m t) (mo : zMo S H H1) (hd : ∀ q ∈ r, q ∉ S) (hr : ∀ q ∈ r, q ∈ r2) : zSr G H1 r2 a m t := by
  obtain ⟨h1, h2, h3, v, h4, h5⟩ := h
  exact ⟨hr a h1, h2, h3, v, hr v h4, h5.mo mo (hd a h1) (hd v h4)⟩
def zDk (G : zG) (K : Nat → Nat) (R : Nat → List Nat) (M : Nat → Nat) (H : Heap) (T : zTT) (D : zDD) (Q : zRR) (C : zCC) : Prop := zRg G H R ∧ K 0 ∈ R 0 ∧ zXo G K (zRL R) H T.2.2 D.2.2.2 Q.1 Q.2.1 C ∧ zSr G H (R 1) (K 1) (M 1) T.1 ∧ zSr G H (R 2) (K 2) (M 2) T.2.1 ∧ zSr G H (R 3) (K 3) (M 3) Q.2.2 ∧ zVr G (zAnO G) (zRL R) H (R 4) (K 4) (M 4) 3 D.1 ∧ zVr G (zCkO G) (zRL R) H (R 5) (K 5) (M 5) 11 D.2.1 ∧ zVr G (zKeO G) (zRL R) H (R 6) (K 6) (M 6) 12 D.2.2.1 ∧ zFx G K (zRL R) H
section KD
variable {G : zG} {d : Nat} {K : Nat → Nat} {R R' : Nat → List Nat} {M : Nat → Nat} {H H1 : Heap} {T : zTT} {D : zDD} {Q : zRR} {C : zCC} {c : Nat}
theorem zDk.frame (h : zDk G K R M H T D Q C) (hc : c < 8) (hm : zMo (R c) H H1) (hs : zRs c R R' H H1) (ho : zOk G H) (ho1 : zOk G H1) : zRg G H1 R' ∧ K 0 ∈ R' 0 ∧ (c ≠ 0 → zXo G K (zRL R') H1 T.2.2 D.2.2.2 Q.1 Q.2.1 C) ∧ (c ≠ 1 → zSr G H1 (R' 1) (K 1) (M 1) T.1) ∧ (c ≠ 2 → zSr G H1 (R' 2) (K 2) (M 2) T.2.1) ∧ (c ≠ 3 → zSr G H1 (R' 3) (K 3) (M 3) Q.2.2) ∧ (c ≠ 4 → zVr G (zAnO G) (zRL R') H1 (R' 4) (K 4) (M 4) 3 D.1) ∧ (c ≠ 5 → zVr G (zCkO G) (zRL R') H1 (R' 5) (K 5) (M 5) 11 D.2.1) ∧ (c ≠ 6 → zVr G (zKeO G) (zRL R') H1 (R' 6) (K 6) (M 6) 12 D.2.2.1) ∧ zFx G K (zRL R') H1 := by
  obtain ⟨h0, h1, h2, h3, h4, h5, h6, h7, h8, h9⟩ := h
  have hS : ∀ q ∈ R c, q ∈ zRL R ∨ H.size ≤ q := fun q z => Or.inl (zRL_mem hc z)
  have hL := hs.L
  have dis : ∀ i, i < 8 → c ≠ i → ∀ q ∈ R i, q ∉ R c := fun i hi hn q z => h0.2 i c hi hc (Ne.symm hn) q z
  have inL : ∀ i, i < 8 → ∀ q ∈ R' i, q ∈ zRL R' := fun i hi q z => zRL_mem hi z
  refine ⟨h0.step hc hs hm.1 ho, hs.sub 0 _ h1, fun z => ?_, fun z => h3.st hm (dis 1 (by omega) z) (hs.sub 1), fun z => h4.st hm (dis 2 (by omega) z) (hs.sub 2), fun z => h5.st hm (dis 3 (by omega) z) (hs.sub 3), fun z => zVr.st zKd_an h6 hm ho ho1 (dis 4 (by omega) z) hS hL (hs.sub 4) (inL 4 (by omega)), fun z => zVr.st zKd_ck h7 hm ho ho1 (dis 5 (by omega) z) hS hL (hs.sub 5) (inL 5 (by omega)), fun z => zVr.st zKd_ke h8 hm ho ho1 (dis 6 (by omega) z) hS hL (hs.sub 6) (inL 6 (by omega)), h9.st hm hS hL⟩
  obtain ⟨vb, cm, fm, wr, wf, hO, hI⟩ := h2
  exact ⟨vb, cm, fm, wr, wf, hO.mo hm (dis 0 (by omega) z _ h1), hI.st hm hS hL⟩
theorem zDk.p1 (h : zDk G K R M H T D Q C) {m : Nat} {t : List Nat} (hm : zMo (R 1) H H1) (hs : zRs 1 R R' H H1) (ho : zOk G H) (ho1 : zOk G H1) (hn : zSr G H1 (R' 1) (K 1) m t) : zDk G K R' (fun i => if i = 1 then m else M i) H1 (t, T.2) D Q C := by
  obtain ⟨f0, f1, f2, f3, f4, f5, f6, f7, f8, f9⟩ := h.frame (by omega) hm hs ho ho1
  exact ⟨f0, f1, f2 (by omega), hn, f4 (by omega), f5 (by omega), f6 (by omega), f7 (by omega), f8 (by omega), f9⟩
theorem zDk.p2 (h : zDk G K R M H T D Q C) {m : Nat} {t : List Nat} (hm : zMo (R 2) H H1) (hs : zRs 2 R R' H H1) (ho : zOk G H) (ho1 : zOk G H1) (hn : zSr G H1 (R' 2) (K 2) m t) : zDk G K R' (fun i => if i = 2 then m else M i) H1 (T.1, t, T.2.2) D Q C := by
  obtain ⟨f0, f1, f2, f3, f4, f5, f6, f7, f8, f9⟩ := h.frame (by omega) hm hs ho ho1
  exact ⟨f0, f1, f2 (by omega), f3 (by omega), hn, f5 (by omega), f6 (by omega), f7 (by omega), f8 (by omega), f9⟩
theorem zDk.p3 (h : zDk G K R M H T D Q C) {m : Nat} {t : List Nat} (hm : zMo (R 3) H H1) (hs : zRs 3 R R' H H1) (ho : zOk G H) (ho1 : zOk G H1) (hn : zSr G H1 (R' 3) (K 3) m t) : zDk G K R' (fun i => if i = 3 then m else M i) H1 T D (Q.1, Q.2.1, t) C := by
  obtain ⟨f0, f1, f2, f3, f4, f5, f6, f7, f8, f9⟩ := h.frame (by omega) hm hs ho ho1
  exact ⟨f0, f1, f2 (by omega), f3 (by omega), f4 (by omega), hn, f6 (by omega), f7 (by omega), f8 (by omega), f9⟩
theorem zDk.p4 (h : zDk G K R M H T D Q C) {m : Nat} {as : List zAn} (hm : zMo (R 4) H H1) (hs : zRs 4 R R' H H1) (ho : zOk G H) (ho1 : zOk G H1) (hn : zVr G (zAnO G) (zRL R') H1 (R' 4) (K 4) m 3 as) : zDk G K R' (fun i => if i = 4 then m else M i) H1 T (as, D.2) Q C := by
  obtain ⟨f0, f1, f2, f3, f4, f5, f6, f7, f8, f9⟩ := h.frame (by omega) hm hs ho ho1
  exact ⟨f0, f1, f2 (by omega), f3 (by omega), f4 (by omega), f5 (by omega), hn, f7 (by omega), f8 (by omega), f9⟩
theorem zDk.p5 (h : zDk G K R M H T D Q C) {m : Nat} {cs : List zCk} (hm : zMo (R 5) H H1) (hs : zRs 5 R R' H H1) (ho : zOk G H) (ho1 : zOk G H1) (hn : zVr G (zCkO G) (zRL R') H1 (R' 5) (K 5) m 11 cs) : zDk G K R' (fun i => if i = 5 then m else M i) H1 T (D.1, cs, D.2.2) Q C := by
  obtain ⟨f0, f1, f2, f3, f4, f5, f6, f7, f8, f9⟩ := h.frame (by omega) hm hs ho ho1
  exact ⟨f0, f1, f2 (by omega), f3 (by omega), f4 (by omega), f5 (by omega), f6 (by omega), hn, f8 (by omega), f9⟩
theorem zDk.p6 (h : zDk G K R M H T D Q C) {m : Nat} {ks : List zKe} (hm : zMo (R 6) H H1) (hs : zRs 6 R R' H H1) (ho : zOk G H) (ho1 : zOk G H1) (hn : zVr G (zKeO G) (zRL R') H1 (R' 6) (K 6) m 12 ks) : zDk G K R' (fun i => if i = 6 then m else M i) H1 T (D.1, D.2.1, ks, D.2.2.2) Q C := by
  obtain ⟨f0, f1, f2, f3, f4, f5, f6, f7, f8, f9⟩ := h.frame (by omega) hm hs ho ho1
  exact ⟨f0, f1, f2 (by omega), f3 (by omega), f4 (by omega), f5 (by omega), f6 (by omega), f7 (by omega), hn, f9⟩
/-- nothing of the desk has changed -/
theorem zDk.ex (h : zDk G K R M H T D Q C) (hm : zMo [] H H1) (ho : zOk G H) (ho1 : zOk G H1) : zDk G K R M H1 T D Q C := by
  obtain ⟨f0, f1, f2, f3, f4, f5, f6, f7, f8, f9⟩ := h.frame (c := 0) (R' := R) (by omega) (hm.mono (fun q z => by cases z)) zRs.rf ho ho1
  refine ⟨f0, f1, ?_, f3 (by omega), f4 (by omega), f5 (by omega), f6 (by omega), f7 (by omega), f8 (by omega), f9⟩
  obtain ⟨vb, cm, fm, wr, wf, hO, hI⟩ := h.2.2.1
  exact ⟨vb, cm, fm, wr, wf, hO.ex hm, hI.st hm (fun q z => by cases z) (fun q z => Or.inl z)⟩
/-- a field of the desk was written -/
theorem zDk.px (h : zDk G K R M H T D Q C) (u : zUp (K 0) H H1) (ho : zOk G H) (ho1 : zOk G H1) {b : zA} {clk rq : Nat} {ra : Option zA} {C' : zCC} (hn : zXo G K (zRL R) H1 b clk rq ra C') : zDk G K R M H1 (T.1, T.2.1, b) (D.1, D.2.1, D.2.2.1, clk) (rq, ra, Q.2.2) C' := by
  obtain ⟨f0, f1, f2, f3, f4, f5, f6, f7, f8, f9⟩ := h.frame (c := 0) (R' := R) (by omega) (u.mo.mono (fun q z => Or.inl (by rw [List.mem_singleton.mp z]; exact h.2.1))) zRs.rf ho ho1
  exact ⟨f0, f1, hn, f3 (by omega), f4 (by omega), f5 (by omega), f6 (by omega), f7 (by omega), f8 (by omega), f9⟩
theorem zDk.fr (h : zDk G K R M H T D Q C) : zFr G (K 0) := (h.1.1 _ (zRL_mem (by omega) h.2.1)).1
theorem zDk.is (h : zDk G K R M H T D Q C) : zIs G H (K 0) 0 := by
  obtain ⟨vb, cm, fm, wr, wf, hO, hI⟩ := h.2.2.1
  exact hO.is
/-- what a step of the desk does to the heap -/
def zPh (M : Nat → Nat) : Nat := M 1 + M 2 + M 3 + M 4 + M 5 + M 6
def zSx (R : Nat → List Nat) (M : Nat → Nat) (H : Heap) (R' : Nat → List Nat) (M' : Nat → Nat) (cc ss : Nat) (H1 : Heap) : Prop := (∀ q ∈ zR6 R', q ∈ zR6 R ∨ H.size ≤ q) ∧ R' 7 = R 7 ∧ zMo (zR6 R) H H1 ∧ zPh M ≤ zPh M' ∧ zUs (cc + (zPh M' - zPh M)) (ss + 4 * (zPh M' - zPh M)) H H1
theorem zSx.rf : zSx R M H R M 0 0 H := ⟨fun q z => Or.inl z, rfl, zMo.rf, Nat.le_refl _, zUs.rf⟩
theorem zSx.tr {M' M2 : Nat → Nat} {R2 : Nat → List Nat} {H2 : Heap} {c1 s1 c2 s2 cc ss : Nat} (h1 : zSx R M H R' M' c1 s1 H1) (h2 : zSx R' M' H1 R2 M2 c2 s2 H2) (hc : c1 + c2 ≤ cc) (hs : s1 + s2 ≤ ss) : zSx R M H R2 M2 cc ss H2 := by
  obtain ⟨a1, a2, a3, a4, a5⟩ := h1
  obtain ⟨b1, b2, b3, b4, b5⟩ := h2
  refine ⟨fun q z => ?_, b2.trans a2, a3.tr b3 (fun q z => Or.inl z) a1, Nat.le_trans a4 b4, a5.tr b5 (by omega) (by omega)⟩
  rcases b1 q z with w | w
  · exact a1 q w
  · exact Or.inr (Nat.le_trans a3.1 w)
theorem zSx.le {M' : Nat → Nat} {c1 s1 cc ss : Nat} (h1 : zSx R M H R' M' c1 s1 H1) (hc : c1 ≤ cc) (hs : s1 ≤ ss) : zSx R M H R' M' cc ss H1 := ⟨h1.1, h1.2.1, h1.2.2.1, h1.2.2.2.1, h1.2.2.2.2.le (by omega) (by omega)⟩
theorem zSx.ex {cc ss : Nat} (hm : zMo [] H H1) (hu : zUs cc ss H H1) : zSx R M H R M cc ss H1 := ⟨fun q z => Or.inl z, rfl, hm.mono (fun q z => by cases z), Nat.le_refl _, hu.le (by omega) (by omega)⟩
theorem zSx.one {M' : Nat → Nat} {cc ss : Nat} (hc : c < 7) (hs : zRs c R R' H H1) (hm : zMo (R c) H H1) (hM : zPh M ≤ zPh M') (hu : zUs (cc + (zPh M' - zPh M)) (ss + 4 * (zPh M' - zPh M)) H H1) : zSx R M H R' M' cc ss H1 := ⟨hs.six, hs.1 7 (by omega), hm.mono (fun q z => Or.inl (zR6_mem hc z)), hM, hu⟩
theorem zPh_1 {m : Nat} : zPh (fun i => if i = 1 then m else M i) = m + M 2 + M 3 + M 4 + M 5 + M 6 := rfl
theorem zPh_2 {m : Nat} : zPh (fun i => if i = 2 then m else M i) = M 1 + m + M 3 + M 4 + M 5 + M 6 := rfl
theorem zPh_3 {m : Nat} : zPh (fun i => if i = 3 then m else M i) = M 1 + M 2 + m + M 4 + M 5 + M 6 := rfl
theorem zPh_4 {m : Nat} : zPh (fun i => if i = 4 then m else M i) = M 1 + M 2 + M 3 + m + M 5 + M 6 := rfl
theorem zPh_5 {m : Nat} : zPh (fun i => if i = 5 then m else M i) = M 1 + M 2 + M 3 + M 4 + m + M 6 := rfl
theorem zPh_6 {m : Nat} : zPh (fun i => if i = 6 then m else M i) = M 1 + M 2 + M 3 + M 4 + M 5 + m := rfl
theorem upd_same {c : Nat} : (fun i => if i = c then M c else M i) = M := by
  funext i
  by_cases e : i = c
  · rw [if_pos e, e]
  · rw [if_neg e]
/-- a builder of the desk has got another text -/
theorem zSr_of {G : zG} {H H1 : Heap} {R : Nat → List Nat} {o v m N v' m' : Nat} {u : List Nat} (ha : o ∈ R c) (h16 : 16 ≤ m) (h8 : m ≤ 8000) (hN : N ≤ 4000) (hT : zTi G H o v m N H1 v' m' u) (hv : v ∈ R c) : zRs c R (zRa R c v') H H1 ∧ zSr G H1 (zRa R c v' c) o m' u ∧ zMo (R c) H H1 := by
  obtain ⟨h1, h2, h3, h4, h5, h6⟩ := hT
  refine ⟨zRs_add ?_, ⟨by rw [zRa_s]; exact List.mem_cons_of_mem _ ha, (by omega), (by omega), v', by rw [zRa_s]; exact List.mem_cons_self, h1⟩, h5.mono (fun q z => Or.inl ?_)⟩
  · rcases h2 with rfl | h2
    · exact Or.inl hv
    · exact Or.inr ⟨h2, h1.lt.2⟩
  · rcases List.mem_cons.mp z with rfl | z
    · exact ha
    · rw [List.mem_singleton.mp z]; exact hv
theorem c_N_takeText (hC : zCv G) (hd : 7 ≤ d) (h : zDk G K R M H T D Q C) (hn : T.1.length ≤ 2000) (hR : zRm G H 2 (T.1.length + 4)) : zC G d M_N_takeText [.ref (K 0)] H (zPr fun k H1 => ∃ a, k = .ref a ∧ zTx G (zRL R) H1 a T.1 ∧ zDk G K R M H1 ([], T.2) D Q C ∧ zSx R M H R M 2 (T.1.length + 4) H1) := by
  obtain ⟨h0, h1, ⟨vb, cm, fm, wr, wf, hO, hI⟩, ⟨t0, t16, t8, v, t1, t2⟩, h4, h5, h6, h7, h8, h9⟩ := id h
  refine zC_in [some (.ref (K 0)), none] pn_N_takeText hC.1.1.1 rfl (Nat.le_of_ble_eq_true rfl) rfl (fun ho => ?_)
  refine sN_takeText_0 (hO.fd rfl) (by omega) (Nat.le_of_ble_eq_true rfl) t2.is (c_Sb_toString hC.1.1 (by omega) t2 h0.1 hR) ?_
  rintro q H1 - ⟨a, rfl, x1, m1, u1⟩ ho1 - -
  have t2' := t2.ex m1
  refine sN_takeText_7 zRf_ref ((hO.ex m1).fd rfl) (by omega) (Nat.le_of_ble_eq_true rfl) t2'.is (c_Sb_setLength hC.1.1 (by omega) t2' (n := 0) (Nat.zero_le _)) ?_
  rintro H2 ⟨g1, g2, g3⟩ ho2 - -
  have hm2 : zMo (R 1) H1 H2 := g2.mono (fun q z => Or.inl (by rw [List.mem_singleton.mp z]; exact t0))
  have D1 := h.ex m1 ho ho1
  have D2 := D1.p1 hm2 (zRs.rf (R := R)) ho1 ho2 (m := M 1) (t := []) ⟨t0, t16, t8, v, t1, g1⟩
  rw [upd_same] at D2
  refine sN_takeText_16 zRf_ref ⟨_, rfl, zRf_ref, a, rfl, x1.mo hm2 (fun q z => Or.inl (zRL_mem (by omega) z)), D2, ?_⟩
  exact (zSx.ex m1 u1).tr (zSx.one (c := 1) (R := R) (R' := R) (M := M) (M' := M) (cc := 0) (ss := 0) (by omega) zRs.rf hm2 (Nat.le_refl _) (g3.le (by omega) (by omega))) (by omega) (by omega)
def zOut (o : Option zA) (mk : List Nat) : List Nat := match o with
  | none => []
  | some A => zPl A ++ mk
theorem c_N_writeAddress (hC : zCv G) (hd : 7 ≤ d) (h : zDk G K R M H T D Q C) {w : Value} {oA : Option zA} {fm : Nat} {mk : List Nat} (hA : zOa G (zRL R) H w oA) (hw : ∀ A, oA = some A → zWf A) (hmk : zTx G (zRL R) H fm mk) (hml : mk.length ≤ 9) (hR : zRm G H 60 3000) : zC G d M_N_writeAddress [.ref (K 0), w, .ref fm] H (zPi fun k H1 => k = nI (zOut oA mk).length ∧ ∃ R' M', zDk G K R' M' H1 (T.1, zOut oA mk, T.2.2) D Q C ∧ zSx R M H R' M' 0 0 H1) := by
  obtain ⟨h0, h1, ⟨vb, cm, fm2, wr, wf, hO, hI⟩, h3, ⟨t0, t16, t8, v, t1, t2⟩, h5, h6, h7, h8, h9⟩ := id h
  have hwr := hA.rf
  have hKo : K 0 ∉ R 2 := h0.2 0 2 (by omega) (by omega) (by omega) _ h1
  have ovL : ∀ q ∈ [K 2, v], q ∈ zRL R := fun q z => by
    rcases List.mem_cons.mp z with rfl | z
    · exact zRL_mem (by omega) t0
    · rw [List.mem_singleton.mp z]; exact zRL_mem (by omega) t1
  refine zC_in [some (.ref (K 0)), some w, some (.ref fm)] pn_N_writeAddress hC.1.1.1 (by rcases hwr with rfl | ⟨q, rfl⟩ <;> rfl) (Nat.le_of_ble_eq_true rfl) rfl (fun ho => ?_)
  refine sN_writeAddress_0 (hO.fd rfl) (by omega) (Nat.le_of_ble_eq_true rfl) t2.is (c_Sb_setLength hC.1.1 (by omega) t2 (n := 0) (Nat.zero_le _)) ?_
  rintro H1 ⟨g1, g2, g3⟩ ho1 hs1 -
  have g1' : zSB G H1 (K 2) v (M 2) [] := g1
  have m1 : zMo (R 2) H H1 := g2.mono (fun q z => Or.inl (by rw [List.mem_singleton.mp z]; exact t0))
  have D1 := h.p2 m1 (zRs.rf (R := R)) ho ho1 (m := M 2) (t := []) ⟨t0, t16, t8, v, t1, g1'⟩
  rw [upd_same] at D1
  have s1 : zSx R M H R M 0 0 H1 := zSx.one (c := 2) (by omega) zRs.rf m1 (Nat.le_refl _) (g3.le (by omega) (by omega))
  have hS2 : ∀ {Hx : Heap}, ∀ q ∈ R 2, q ∈ zRL R ∨ Hx.size ≤ q := fun q z => Or.inl (zRL_mem (by omega) z)
  have hO1 := hO.mo m1 hKo
  cases hoA : oA with
  | none =>
    rw [hoA] at hA
    have := hA.1 rfl
    subst this
    refine sN_writeAddress_8 zRf_null (fun _ => ?_) (fun _ z => by cases z)
    refine sN_writeAddress_29 (hO1.fd rfl) (by omega) (Nat.le_of_ble_eq_true rfl) g1'.is (c_Sb_length hC.1.1 (by omega) g1') ?_
    rintro q H2 ⟨rfl, rfl⟩ - - -
    exact sN_writeAddress_36 ⟨_, rfl, rfl, R, M, D1, s1⟩
  | some A =>
    rw [hoA] at hA
    have hwA := hw A hoA
    obtain ⟨qa, rfl, hqa⟩ := hA.2 A rfl
    have hpl := hwA.pl
    refine sN_writeAddress_8 zRf_ref (fun z => by cases z) (fun _ _ => ?_)
    have hqa1 : zAd G [K 2, v] H1 qa A := hqa.st m1 hS2 (fun q z => Or.inl (ovL q z))
    have hL1 : zLi G H1 [K 2, v] := fun q z => (h0.1.mo hs1) q (ovL q z)
    have hR1 : zRm G H1 (400 / 9 + 1) (6 * 400) := hR.us g3 _ _ (by omega) (by omega)
    refine sN_writeAddress_12 zRf_ref (hO1.fd rfl) (by omega) (Nat.le_of_ble_eq_true rfl) hqa1.2.1 (c_Ad_appendTo hC (by omega) t16 (ti_0 (N := 400) g1') hqa1 hL1 (by simp only [List.length_nil]; omega) (by decide) hR1) ?_
    rintro H2 ⟨v2, m2, hT2⟩ ho2 hs2 -
    have mo2 : zMo (R 2) H1 H2 := (zSr_of t0 t16 t8 (by decide) hT2 t1).2.2
    have hO2 := hO1.mo mo2 hKo
    have hmk1 : zTx G [K 2, v] H1 fm mk := hmk.st m1 hS2 (fun q z => Or.inl (ovL q z))
    refine sN_writeAddress_20 zRf_ref (hO2.fd rfl) (by omega) (Nat.le_of_ble_eq_true rfl) hT2.1.is (ti_app1 hC.1.1 (by omega) t16 hT2 (ti_tx hT2 hmk1) (by rw [List.nil_append]; omega) (by decide) hR1) ?_
    rintro q H3 - ⟨rfl, v3, m3, hT3⟩ ho3 hs3 -
    obtain ⟨k1, k2, k3⟩ := zSr_of (c := 2) (R := R) t0 t16 t8 (by decide) hT3 t1
    refine sN_writeAddress_28 rfl ((hO1.mo k3 hKo).fd rfl) (by omega) (Nat.le_of_ble_eq_true rfl) hT3.1.is (c_Sb_length hC.1.1 (by omega) hT3.1) ?_
    rintro q H4 ⟨rfl, rfl⟩ - - -
    have D3 := D1.p2 k3 k1 ho1 ho3 k2
    refine sN_writeAddress_36 ⟨_, rfl, rfl, _, _, D3, ?_⟩
    have h43 := hT3.2.2.1
    exact s1.tr (zSx.one (c := 2) (cc := 0) (ss := 0) (by omega) k1 k3 (by rw [zPh_2]; unfold zPh; omega) (by rw [zPh_2]; unfold zPh; exact hT3.2.2.2.2.2.le (by omega) (by omega))) (by omega) (by omega)
end KD
