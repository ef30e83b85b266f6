/-! isWord: the one method with a long. -/
theorem zcl_34 : Cond.constantLong "NetDeskModel" 34 31 ∈ lw_tbl := zt5 136 rfl
theorem zcl_114 : Cond.constantLong "NetDeskModel" 114 464399 ∈ lw_tbl := zt5 132 rfl
theorem zcl_123 : Cond.constantLong "NetDeskModel" 123 5345 ∈ lw_tbl := zt5 137 rfl
theorem zcl_128 : Cond.constantLong "NetDeskModel" 128 177585635 ∈ lw_tbl := zt5 138 rfl
theorem zcl_139 : Cond.constantLong "NetDeskModel" 139 500 ∈ lw_tbl := zt5 139 rfl
theorem zk_Mo_116 : zLkS "NetDeskModel" 116 M_Mo_isWord 4 := ⟨zc_Mo_isWord, zt5 134 rfl, Or.inl (zt5 133 rfl)⟩
def zWh (G : zG) (d : Nat) (M : zMd) (pc : Nat) (lv : List (Nat × Value)) (st : List Value) (H : Heap) (Q : Option Value → Heap → Prop) : Prop :=
  ∀ (p : Program) (e : Env) (s : State) (m : MethodId) (args : Array Value) (below : List Frame) (meth : Method) (c : Code) (locs : List Loc) (ls : Array Slot) (cells slots : Nat),
    zGo G → zEnv G s → zAt M p s m meth c → lv_has ls M.2.2.1 lv → (∀ q ∈ locs, zFr G q.base) → zOk G s.heap → zOk G H →
    W p (zl G) e (zR G d s.heap) s m args below meth c H locs cells slots (MQ below (zQ G Q) args s (zCp G - s.heap.size) (zSp G - zT s.heap) (zFr G)) (F0 m pc ls st)
section WH
variable {G : zG} {d : Nat} {M : zMd} {pc : Nat} {lv : List (Nat × Value)} {st : List Value} {H : Heap} {Q : Option Value → Heap → Prop}
theorem zC_ofh {av : List Value} (hp : plainFor M.1 = true) (hG : zGo G) (hl : (lg_sl av).length ≤ M.2.2.1) (k : zOk G H → zWh G d M 0 (lv_args 0 av) [] H Q) : zC G d M av H Q := by
  intro ho
  refine va_MetF (cc := M.2.1) (maxL := M.2.2.1) (ret := M.2.2.2) hp rfl ?_
  intro p e s m args below meth c s₁ B hml hv
  obtain ⟨rfl, rfl, hE⟩ := hv
  rw [lg_entry_eq]
  exact k ho p e s m _ below meth c [] _ 0 0 hG hE ⟨B.exec, B.bytes, hml, B.returns, B.notSynchronized, findClass_of_methodNamed B.named, (name_of_methodNamed B.named B.method).1⟩ (lv_entry av hl) (fun q h => by cases h) ho ho
/-- back to where no local is known -/
theorem zh_out (k : zW G d M pc (List.replicate M.2.2.1 none) st H Q) : zWh G d M pc lv st H Q := fun p e s m args below meth c locs ls cells slots g0 g1 A h2 h3 h4 h5 => k p e s m args below meth c locs ls cells slots g0 g1 A (by simp) ⟨by rw [h2.1]; simp, h2.2.1, fun i v hi => by
  have := List.getElem?_replicate (n := M.2.2.1) (a := (none : Option Value)) (i := i)
  rw [this] at hi
  split at hi
  · cases hi
  · cases hi⟩ h3 h4 h5
theorem zh_iload_n {j : Fin 4} {i : Nat} {x : Int32} (hd : decode M.2.1 pc = .ok (.iload_n j, 1)) (hj : (j : Nat) = i) (hl : (i, Value.int x) ∈ lv) (k : zWh G d M (pc + 1) lv (.int x :: st) H Q) : zWh G d M pc lv st H Q :=
  fun p e s m args below meth c locs ls cells slots g0 g1 A h2 h3 h4 h5 => lv_iload_n A.1 A.2.1 hd hj (h2.2.2 _ hl) (k p e s m args below meth c locs ls cells slots g0 g1 A h2 h3 h4 h5)
theorem zh_iload {i : Nat} {x : Int32} (hd : decode M.2.1 pc = .ok (.iload i, 2)) (hl : (i, Value.int x) ∈ lv) (k : zWh G d M (pc + 2) lv (.int x :: st) H Q) : zWh G d M pc lv st H Q :=
  fun p e s m args below meth c locs ls cells slots g0 g1 A h2 h3 h4 h5 => lv_iload A.1 A.2.1 hd (h2.2.2 _ hl) (k p e s m args below meth c locs ls cells slots g0 g1 A h2 h3 h4 h5)
theorem zh_lload_n {j : Fin 4} {i : Nat} {x : Int64} (hd : decode M.2.1 pc = .ok (.lload_n j, 1)) (hj : (j : Nat) = i) (hl : (i, Value.long x) ∈ lv) (k : zWh G d M (pc + 1) lv (.long x :: st) H Q) : zWh G d M pc lv st H Q :=
  fun p e s m args below meth c locs ls cells slots g0 g1 A h2 h3 h4 h5 => lv_lload_n A.1 A.2.1 hd hj (h2.2.2 _ hl) (k p e s m args below meth c locs ls cells slots g0 g1 A h2 h3 h4 h5)
theorem zh_lload {i : Nat} {x : Int64} (hd : decode M.2.1 pc = .ok (.lload i, 2)) (hl : (i, Value.long x) ∈ lv) (k : zWh G d M (pc + 2) lv (.long x :: st) H Q) : zWh G d M pc lv st H Q :=
  fun p e s m args below meth c locs ls cells slots g0 g1 A h2 h3 h4 h5 => lv_lload A.1 A.2.1 hd (h2.2.2 _ hl) (k p e s m args below meth c locs ls cells slots g0 g1 A h2 h3 h4 h5)
theorem zh_aload_n {j : Fin 4} {i a : Nat} (hd : decode M.2.1 pc = .ok (.aload_n j, 1)) (hj : (j : Nat) = i) (hl : (i, Value.ref a) ∈ lv) (k : zWh G d M (pc + 1) lv (.ref a :: st) H Q) : zWh G d M pc lv st H Q :=
  fun p e s m args below meth c locs ls cells slots g0 g1 A h2 h3 h4 h5 => lv_aload_n A.1 A.2.1 hd hj (h2.2.2 _ hl) (k p e s m args below meth c locs ls cells slots g0 g1 A h2 h3 h4 h5)
theorem zh_istore {i : Nat} {x : Int32} {lv' : List (Nat × Value)} (hd : decode M.2.1 pc = .ok (.istore i, 2)) (hn : i < M.2.2.1) (hl : (i, Value.int x) :: lv.filter (fun q => !(q.1 == i) && !(q.1 + 1 == i && q.2.category == 2)) = lv') (k : zWh G d M (pc + 2) lv' st H Q) : zWh G d M pc lv (.int x :: st) H Q :=
  fun p e s m args below meth c locs ls cells slots g0 g1 A h2 h3 h4 h5 => lv_istore A.1 A.2.1 hd h2 hn hl (fun ls' h' => k p e s m args below meth c locs ls' cells slots g0 g1 A h' h3 h4 h5)
theorem zh_lstore {i : Nat} {x : Int64} {lv' : List (Nat × Value)} (hd : decode M.2.1 pc = .ok (.lstore i, 2)) (hn : i + 1 < M.2.2.1) (hl : (i, Value.long x) :: lv.filter (fun q => !(q.1 == i) && (!(q.1 == i + 1) && !(q.1 + 1 == i && q.2.category == 2))) = lv') (k : zWh G d M (pc + 2) lv' st H Q) : zWh G d M pc lv (.long x :: st) H Q :=
  fun p e s m args below meth c locs ls cells slots g0 g1 A h2 h3 h4 h5 => lv_lstore A.1 A.2.1 hd h2 hn hl (fun ls' h' => k p e s m args below meth c locs ls' cells slots g0 g1 A h' h3 h4 h5)
theorem zh_iinc {i n : Nat} {z : Int} {x v : Int32} {lv' : List (Nat × Value)} (hd : decode M.2.1 pc = .ok (.iinc i z, 3)) (hk : lv[n]? = some (i, .int x)) (hv : x + Int32.ofInt z = v) (hn : i < M.2.2.1) (hl : (i, Value.int v) :: lv.filter (fun q => !(q.1 == i) && !(q.1 + 1 == i && q.2.category == 2)) = lv') (k : zWh G d M (pc + 3) lv' st H Q) : zWh G d M pc lv st H Q :=
  fun p e s m args below meth c locs ls cells slots g0 g1 A h2 h3 h4 h5 => lv_iinc A.1 A.2.1 hd h2 hk hv hn hl (fun ls' h' => k p e s m args below meth c locs ls' cells slots g0 g1 A h' h3 h4 h5)
theorem zh_lconst {n : Fin 2} {v : Int64} (hd : decode M.2.1 pc = .ok (.lconst n, 1)) (hv : Int64.ofNat (n : Nat) = v) (k : zWh G d M (pc + 1) lv (.long v :: st) H Q) : zWh G d M pc lv st H Q :=
  fun p e s m args below meth c locs ls cells slots g0 g1 A h2 h3 h4 h5 => lv_lconst A.1 A.2.1 hd hv (k p e s m args below meth c locs ls cells slots g0 g1 A h2 h3 h4 h5)
theorem zh_lcmp {x y : Int64} (hd : decode M.2.1 pc = .ok (.lcmp, 1)) (k : zWh G d M (pc + 1) lv (.int (if x > y then 1 else if x == y then 0 else -1) :: st) H Q) : zWh G d M pc lv (.long y :: .long x :: st) H Q := by
  intro p e s m args below meth c locs ls cells slots g0 g1 A h2 h3 h4 h5
  intro T hT X
  obtain ⟨t, a, b⟩ := k p e s m args below meth c locs ls cells slots g0 g1 A h2 h3 h4 h5 T hT X
  refine ⟨t, ?_, b⟩
  have hexec := A.1
  have hb := A.2.1
  jvm_step X.here [X.here.top, hexec, hb, hd]
  split
  · next h =>
    have h' : x > y := h
    rw [if_pos h'] at a
    exact a
  · next h =>
    have h' : ¬ x > y := h
    rw [if_neg h'] at a
    split
    · next h2 =>
      rw [if_pos (beq_iff_eq.mpr h2)] at a
      exact a
    · next h2 =>
      rw [if_neg (fun z => h2 (beq_iff_eq.mp z))] at a
      exact a
theorem zh_if_le {x : Int32} {off : Int} (t : Nat) (hd : decode M.2.1 pc = .ok (.ifCond .le off, 3)) (ht : (pc : Int) + off = (t : Int)) (kt : x ≤ 0 → zWh G d M t lv st H Q) (kf : ¬ x ≤ 0 → zWh G d M (pc + 3) lv st H Q) : zWh G d M pc lv (.int x :: st) H Q :=
  fun p e s m args below meth c locs ls cells slots g0 g1 A h2 h3 h4 h5 => lv_if_le A.1 A.2.1 hd ht (fun h => kt h p e s m args below meth c locs ls cells slots g0 g1 A h2 h3 h4 h5) (fun h => kf h p e s m args below meth c locs ls cells slots g0 g1 A h2 h3 h4 h5)
theorem zh_icmp_ge {x y : Int32} {off : Int} (t : Nat) (hd : decode M.2.1 pc = .ok (.if_icmp .ge off, 3)) (ht : (pc : Int) + off = (t : Int)) (kt : y ≤ x → zWh G d M t lv st H Q) (kf : ¬ y ≤ x → zWh G d M (pc + 3) lv st H Q) : zWh G d M pc lv (.int y :: .int x :: st) H Q :=
  fun p e s m args below meth c locs ls cells slots g0 g1 A h2 h3 h4 h5 => lv_icmp_ge A.1 A.2.1 hd ht (fun h => kt h p e s m args below meth c locs ls cells slots g0 g1 A h2 h3 h4 h5) (fun h => kf h p e s m args below meth c locs ls cells slots g0 g1 A h2 h3 h4 h5)
theorem zh_icmp_eq {x y : Int32} {off : Int} (t : Nat) (hd : decode M.2.1 pc = .ok (.if_icmp .eq off, 3)) (ht : (pc : Int) + off = (t : Int)) (kt : x = y → zWh G d M t lv st H Q) (kf : ¬ x = y → zWh G d M (pc + 3) lv st H Q) : zWh G d M pc lv (.int y :: .int x :: st) H Q :=
  fun p e s m args below meth c locs ls cells slots g0 g1 A h2 h3 h4 h5 => lv_icmp_eq A.1 A.2.1 hd ht (fun h => kt h p e s m args below meth c locs ls cells slots g0 g1 A h2 h3 h4 h5) (fun h => kf h p e s m args below meth c locs ls cells slots g0 g1 A h2 h3 h4 h5)
theorem zh_bald {a n i : Nat} {g : Nat → Int32} (hd : decode M.2.1 pc = .ok (.baload, 1)) (hA : zArr G H a .byte n (fun j => .int (g j))) (hi : i < n) (hn : n ≤ 65536) (kk : zWh G d M (pc + 1) lv (.int (g i) :: st) H Q) : zWh G d M pc lv (.int (nI i) :: .ref a :: st) H Q := by
  intro p e s m args below meth c locs ls cells slots g0 g1 A h2 h3 h4 h5
  obtain ⟨cell, q1, q2, q3, q4, q5, q6⟩ := hA
  have hv := q5 i hi
  rw [← nI_clamp (n := i) (by omega)] at hv
  have hvp : vp_in (nI i) n := vp_in_nI hi (by omega)
  refine W.bald A.1 A.2.1 q1 (State.isArrayOf_alike g1.alike q2) q3 (by rw [q4]; exact hvp) hv rfl rfl hd ?_
  rw [nI_clamp (by omega)]
  exact kk p e s m args below meth c locs ls cells slots g0 g1 A h2 h3 h4 h5
theorem zh_bipush {n : Int} (v : Int32) (hd : decode M.2.1 pc = .ok (.bipush n, 2)) (hv : (Int8.ofInt n).toInt32 = v) (k : zWh G d M (pc + 2) lv (.int v :: st) H Q) : zWh G d M pc lv st H Q :=
  fun p e s m args below meth c locs ls cells slots g0 g1 A h2 h3 h4 h5 => lv_bipush A.1 A.2.1 hd hv (k p e s m args below meth c locs ls cells slots g0 g1 A h2 h3 h4 h5)
theorem zh_iconst {n : Int} (v : Int32) (hd : decode M.2.1 pc = .ok (.iconst n, 1)) (hv : Int32.ofInt n = v) (k : zWh G d M (pc + 1) lv (.int v :: st) H Q) : zWh G d M pc lv st H Q :=
  fun p e s m args below meth c locs ls cells slots g0 g1 A h2 h3 h4 h5 => lv_iconst A.1 A.2.1 hd hv (k p e s m args below meth c locs ls cells slots g0 g1 A h2 h3 h4 h5)
theorem zh_ldc2 {idx : Nat} {v : Int64} (hd : decode M.2.1 pc = .ok (.ldc2_w idx, 3)) (hw : Cond.constantLong M.1.cls idx v ∈ lw_tbl) (kk : zWh G d M (pc + 3) lv (.long v :: st) H Q) : zWh G d M pc lv st H Q :=
  fun p e s m args below meth c locs ls cells slots g0 g1 A h2 h3 h4 h5 => lv_ldc2 A.1 A.2.1 A.2.2.2.2.2.1 (zWd g0 g1 hw rfl) hd (kk p e s m args below meth c locs ls cells slots g0 g1 A h2 h3 h4 h5)
theorem zh_land {x y : Int64} (hd : decode M.2.1 pc = .ok (.land, 1)) (k : zWh G d M (pc + 1) lv (.long (x &&& y) :: st) H Q) : zWh G d M pc lv (.long y :: .long x :: st) H Q :=
  fun p e s m args below meth c locs ls cells slots g0 g1 A h2 h3 h4 h5 => lv_land A.1 A.2.1 hd (k p e s m args below meth c locs ls cells slots g0 g1 A h2 h3 h4 h5)
theorem zh_l2i {x : Int64} (hd : decode M.2.1 pc = .ok (.l2i, 1)) (k : zWh G d M (pc + 1) lv (.int x.toInt32 :: st) H Q) : zWh G d M pc lv (.long x :: st) H Q :=
  fun p e s m args below meth c locs ls cells slots g0 g1 A h2 h3 h4 h5 => lv_l2i A.1 A.2.1 hd rfl (k p e s m args below meth c locs ls cells slots g0 g1 A h2 h3 h4 h5)
theorem zh_iadd {x y : Int32} (hd : decode M.2.1 pc = .ok (.iadd, 1)) (k : zWh G d M (pc + 1) lv (.int (x + y) :: st) H Q) : zWh G d M pc lv (.int y :: .int x :: st) H Q :=
  fun p e s m args below meth c locs ls cells slots g0 g1 A h2 h3 h4 h5 => lv_iadd A.1 A.2.1 hd (k p e s m args below meth c locs ls cells slots g0 g1 A h2 h3 h4 h5)
theorem zh_lshr {x : Int64} {y : Int32} (hd : decode M.2.1 pc = .ok (.lshr, 1)) (k : zWh G d M (pc + 1) lv (.long (x >>> (y.toInt64 &&& 63)) :: st) H Q) : zWh G d M pc lv (.int y :: .long x :: st) H Q :=
  fun p e s m args below meth c locs ls cells slots g0 g1 A h2 h3 h4 h5 => lv_lshr A.1 A.2.1 hd rfl (k p e s m args below meth c locs ls cells slots g0 g1 A h2 h3 h4 h5)
theorem zh_goto {off : Int} (t : Nat) (hd : decode M.2.1 pc = .ok (.goto off, 3)) (ht : (pc : Int) + off = (t : Int)) (k : zWh G d M t lv st H Q) : zWh G d M pc lv st H Q :=
  fun p e s m args below meth c locs ls cells slots g0 g1 A h2 h3 h4 h5 => lv_goto A.1 A.2.1 hd ht (k p e s m args below meth c locs ls cells slots g0 g1 A h2 h3 h4 h5)
end WH
/-- the letters of a word: five bits each -/
def zCh (w : Int64) : List Nat → Prop
  | [] => ¬ w > 0
  | c :: cs => w > 0 ∧ (96 : Int32) + (w &&& 31).toInt32 = nI c ∧ zCh (w >>> ((5 : Int32).toInt64 &&& 63)) cs
theorem zCh_open : zCh 464399 [111, 112, 101, 110] := ⟨by decide, by decide, by decide, by decide, by decide, by decide, by decide, by decide, by show ¬ (_ : Int64) > 0; decide⟩
theorem zCh_age : zCh 5345 [97, 103, 101] := ⟨by decide, by decide, by decide, by decide, by decide, by decide, by show ¬ (_ : Int64) > 0; decide⟩
theorem zCh_cookie : zCh 177585635 [99, 111, 111, 107, 105, 101] := ⟨by decide, by decide, by decide, by decide, by decide, by decide, by decide, by decide, by decide, by decide, by decide, by decide, by show ¬ (_ : Int64) > 0; decide⟩
theorem zCh_to : zCh 500 [116, 111] := ⟨by decide, by decide, by decide, by decide, by show ¬ (_ : Int64) > 0; decide⟩
section MG
variable {G : zG} {d : Nat} {ad : Nat → Nat} {μ : zMm} {t : List Nat}
theorem mc_isWord (hC : zCs G) (ht : mN (μ.2 2) 0 t) (hlo : zLo t) (htl : t.length ≤ 2000) {a b : Nat} (hab : a ≤ b) (hb : b ≤ t.length) {w : Int64} {cs : List Nat} (hw : zCh w cs) (hcs : zLo cs) : mC G d ad M_Mo_isWord [.ref (ad 2), .int (nI a), .int (nI b), .long w] μ (mRd μ (zB1 (decide ((zSli t a b).take cs.length = cs)))) := by
  intro H hM
  refine zC_ofh pn_Mo_isWord hC.1 (Nat.le_of_ble_eq_true rfl) (fun ho => ?_)
  have at' : ∀ i, i < t.length → μ.2 2 i = nI (t.getD i 0) := fun i hi => by have := ht i hi; rw [Nat.zero_add] at this; exact this
  have no : ∀ {lv : List (Nat × Value)}, decide ((zSli t a b).take cs.length = cs) = false → zWh G d M_Mo_isWord 36 lv [] H (mQ G ad H (mRd μ (zB1 (decide ((zSli t a b).take cs.length = cs))))) := fun hf => zh_out ((sMo_isWord_36 (o0 := none) (o1 := none) (o2 := none) (o3 := none) (o4 := none) (o5 := none) (o6 := none) (o7 := none) rfl ⟨_, rfl, by rw [hf]; decide, rfl⟩) H H hM zMo.rf zUs.rf)
  refine zh_iload_n (j := 1) (i := 1) (x := nI a) dMo_isWord_0 rfl (List.mem_cons_of_mem _ List.mem_cons_self) ?_
  refine zh_istore dMo_isWord_1 (Nat.le_of_ble_eq_true rfl) rfl ?_
  refine zh_lload_n (j := 3) (i := 3) (x := w) dMo_isWord_3 rfl (List.mem_cons_of_mem _ (List.mem_cons_of_mem _ (List.mem_cons_of_mem _ (List.mem_cons_of_mem _ List.mem_cons_self)))) ?_
  refine zh_lstore dMo_isWord_4 (Nat.le_of_ble_eq_true rfl) rfl ?_
  have main : ∀ (ds pre : List Nat) (v : Int64), cs = pre ++ ds → zCh v ds → (zSli t a b).take pre.length = pre → zWh G d M_Mo_isWord 6 [(6, .long v), (5, .int (nI (a + pre.length))), (0, .ref (ad 2)), (1, .int (nI a)), (2, .int (nI b)), (3, .long w)] [] H (mQ G ad H (mRd μ (zB1 (decide ((zSli t a b).take cs.length = cs))))) := by
    intro ds
    induction ds with
    | nil =>
      intro pre v he hv hpre
      rw [List.append_nil] at he
      subst he
      refine zh_lload (x := v) dMo_isWord_6 List.mem_cons_self ?_
      refine zh_lconst (v := 0) dMo_isWord_8 (by decide) ?_
      refine zh_lcmp dMo_isWord_9 ?_
      rw [if_neg hv]
      refine zh_if_le 50 dMo_isWord_10 (by decide) (fun _ => ?_) (fun z => absurd (by split <;> decide) z)
      exact zh_out ((sMo_isWord_50 (o0 := none) (o1 := none) (o2 := none) (o3 := none) (o4 := none) (o5 := none) (o6 := none) (o7 := none) rfl ⟨_, rfl, by rw [decide_eq_true hpre]; decide, rfl⟩) H H hM zMo.rf zUs.rf)
    | cons c ds ih =>
      intro pre v he hv hpre
      obtain ⟨v1, v2, v3⟩ := hv
      have hcl : cs.length = pre.length + 1 + ds.length := by rw [he, List.length_append, List.length_cons]; omega
      have hpl : pre.length ≤ (zSli t a b).length := by
        have := congrArg List.length hpre
        rw [List.length_take] at this
        omega
      rw [sli_len hb] at hpl
      have hc128 : c < 128 := hcs c (by rw [he]; exact List.mem_append_right _ List.mem_cons_self)
      refine zh_lload (x := v) dMo_isWord_6 List.mem_cons_self ?_
      refine zh_lconst (v := 0) dMo_isWord_8 (by decide) ?_
      refine zh_lcmp dMo_isWord_9 ?_
      rw [if_pos v1]
      refine zh_if_le 50 dMo_isWord_10 (by decide) (fun z => absurd z (by decide)) (fun _ => ?_)
      refine zh_iload (x := nI (a + pre.length)) dMo_isWord_13 (List.mem_cons_of_mem _ List.mem_cons_self) ?_
      refine zh_iload_n (j := 2) (i := 2) (x := nI b) dMo_isWord_15 rfl (List.mem_cons_of_mem _ (List.mem_cons_of_mem _ (List.mem_cons_of_mem _ (List.mem_cons_of_mem _ List.mem_cons_self)))) ?_
      refine zh_icmp_ge 36 dMo_isWord_16 (by decide) (fun z => no (decide_eq_false (fun q => ?_))) (fun z => ?_)
      · have hle := (nI_leI (by omega) (by omega)).mp z
        have := congrArg List.length q
        rw [List.length_take, sli_len hb] at this
        omega
      · have hlt : a + pre.length < b := Nat.not_le.mp (fun q => z (nI_le q (by omega)))
        have hlo' := hlo.at (a + pre.length)
        refine zh_aload_n (j := 0) (i := 0) (a := ad 2) dMo_isWord_19 rfl (List.mem_cons_of_mem _ (List.mem_cons_of_mem _ List.mem_cons_self)) ?_
        refine zh_iload (x := nI (a + pre.length)) dMo_isWord_20 (List.mem_cons_of_mem _ List.mem_cons_self) ?_
        refine zh_bald dMo_isWord_22 (hM.ab mk_2) (by rw [ml_2]; omega) (mLn_le _) ?_
        rw [at' _ (by omega)]
        refine zh_bipush 96 dMo_isWord_23 (by decide) ?_
        refine zh_lload (x := v) dMo_isWord_25 List.mem_cons_self ?_
        refine zh_ldc2 dMo_isWord_27 zcl_34 ?_
        refine zh_land dMo_isWord_30 ?_
        refine zh_l2i dMo_isWord_31 ?_
        refine zh_iadd dMo_isWord_32 ?_
        rw [v2]
        have hg : (zSli t a b).getD pre.length 0 = t.getD (a + pre.length) 0 := sli_get (by omega)
        refine zh_icmp_eq 38 dMo_isWord_33 (by decide) (fun z => ?_) (fun z => no (decide_eq_false (fun q => ?_)))
        · have hc := (nI_eq (by omega) (by omega)).mp z
          refine zh_iinc (n := 1) dMo_isWord_38 rfl rfl (Nat.le_of_ble_eq_true rfl) rfl ?_
          refine zh_lload (x := v) dMo_isWord_41 (List.mem_cons_of_mem _ List.mem_cons_self) ?_
          refine zh_iconst 5 dMo_isWord_43 zki_5 ?_
          refine zh_lshr dMo_isWord_44 ?_
          refine zh_lstore dMo_isWord_45 (Nat.le_of_ble_eq_true rfl) rfl ?_
          refine zh_goto 6 dMo_isWord_47 (by decide) ?_
          have := ih (pre ++ [c]) (v >>> ((5 : Int32).toInt64 &&& 63)) (by rw [he, List.append_assoc]; rfl) v3 (by
            rw [List.length_append]
            simp only [List.length_cons, List.length_nil]
            rw [take_s (by rw [sli_len hb]; omega), hpre, hg, hc])
          have e1 : nI (a + pre.length) + Int32.ofInt 1 = nI (a + (pre ++ [c]).length) := by
            rw [zki_1, nI_1, List.length_append]; rfl
          rw [e1]
          exact this
        · apply z
          have h1 : ((zSli t a b).take cs.length).getD pre.length 0 = cs.getD pre.length 0 := by rw [q]
          rw [getD_take (by omega), hg, he, getD_app_hi (Nat.le_refl _), Nat.sub_self] at h1
          rw [h1]; rfl
  have := main cs [] w rfl hw rfl
  rw [List.length_nil, Nat.add_zero] at this
  exact this
end MG
