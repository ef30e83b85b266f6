theorem zEnv_calling {G : zG} {U : State} {g : JFrame} {mk : MethodId} {a : Array Value} (h : zEnv G U) : zEnv G (U.calling g mk a) := h
theorem zBlind {G : zG} {av : List Value} {H : Heap} : FrameBlind (va_Pc av (fun U => U.heap = H ∧ zEnv G U)) := fun _ _ _ _ q => ⟨q.1, q.2.1, q.2.2⟩
theorem zCat_le (l : List Value) : (l.map fun v => v.category).sum ≤ 2 * l.length := by
  induction l with
  | nil => simp
  | cons v l ih =>
    have := lv_cat v
    simp only [List.map_cons, List.sum_cons, List.length_cons]
    omega
/-- the callee's own word, at the caller's -/
theorem zWs {G : zG} {s : State} {M : zMd} (g0 : zGo G) (g1 : zEnv G s) (hw : Cond.code M.1 M.2.1 M.2.2.1 M.2.2.2 ∈ lw_tbl) : ∀ w ∈ [Cond.code M.1 M.2.1 M.2.2.1 M.2.2.2], ∀ (a' : Array Value) (U : State), s.WarmedH U.vm → w.before a' U = true := by
  intro w h a' U hW
  rw [List.mem_singleton.mp h]
  exact zWd g0 (State.WarmedH.trans g1 hW) hw rfl
theorem zSelP {y : MethodName} {s : State} {args : Array Value} {C : String} {cC : ClassId} (hy : y.cls ≠ "java/lang/invoke/MethodHandle" ∧ y.cls ≠ "java/lang/invoke/VarHandle") (hfc : s.vm.findClass C = some cC) (hpriv : (Cond.privateMethod y).before args s = true) (hinst : (Cond.instanceMethod y).before args s = true) (hsame : (Cond.sameMethod y.cls y.cls y.name y.desc).before args s = true) : (Cond.selects C y y).before args s = true := by
  obtain ⟨cn, ck, r1, hcn, hck, hni, hf, hn1⟩ := Cond.sameMethod_found hsame
  obtain ⟨mk, methM, hnamed, hmethM, -, -⟩ := Cond.instanceMethod_spec hinst
  have hfound : s.methodFound? y.cls y.name y.desc = some mk := State.methodFound?_of_named hnamed hy
  have hcls : mk.cls = cn := Option.some.inj ((findClass_of_methodNamed hnamed).symm.trans hcn)
  have hsel : selectMethod {} s.vm cC mk = .method mk := selectMethod_private hmethM (Cond.privateMethod_at hpriv mk methM hnamed hmethM)
  simp only [Cond.before, Cond.holds, Cond.value, hfc, hfound, hnamed, hsel, hcls, hck]
  simp; exact hni
section ZC
variable {G : zG} {d : Nat} {M M2 : zMd} {pc : Nat} {lv : List (Option Value)} {st : List Value} {H : Heap} {Q Q2 : Option Value → Heap → Prop}
theorem zLs_entry {av : List Value} {n : Nat} (hav : ∀ v ∈ av, v.category = 1) (hl : av.length ≤ n) : zLs ((lg_sl av ++ List.replicate (n - (lg_sl av).length) Slot.unset).toArray) (av.map some ++ List.replicate (n - av.length) none) := by
  have e : lg_sl av = av.map Slot.val := by
    clear hl
    induction av with
    | nil => rfl
    | cons v l ih =>
      have h1 := hav v List.mem_cons_self
      have h2 := ih (fun w h => hav w (List.mem_cons_of_mem _ h))
      unfold lg_sl at h2 ⊢
      rw [List.flatMap_cons, h2, if_neg (by omega)]
      rfl
  have hle : (lg_sl av).length = av.length := by rw [e, List.length_map]
  have h := lv_entry av (n := n) (by omega)
  refine ⟨by rw [h.1]; simp; omega, h.2.1, fun i v hi => ?_⟩
  have hi2 : i < av.length ∧ av[i]? = some v := by
    by_cases c : i < av.length
    · rw [List.getElem?_append_left (by simpa using c), List.getElem?_map] at hi
      refine ⟨c, ?_⟩
      cases hz : av[i]? with
      | none => rw [hz] at hi; cases hi
      | some w => rw [hz] at hi; cases hi; rfl
    · rw [List.getElem?_append_right (by simp; omega), List.getElem?_replicate] at hi
      split at hi <;> cases hi
  refine ⟨?_, hav v (List.mem_of_getElem? hi2.2)⟩
  rw [List.getElem?_toArray, List.getElem?_append_left (by omega), e, List.getElem?_map, hi2.2]
  rfl
/-- a contract out of the walk from its entry -/
theorem zC_of {av : List Value} (hp : plainFor M.1 = true) (hG : zGo G) (hav : ∀ v ∈ av, v.category = 1) (hl : av.length ≤ M.2.2.1) (k : zOk G H → zW G d M 0 (av.map some ++ List.replicate (M.2.2.1 - av.length) none) [] H Q) : zC G d M av H Q := by
  intro ho
  refine va_MetF (cc := M.2.1) (maxL := M.2.2.1) (ret := M.2.2.2) hp rfl ?_
  intro p e s m args below meth c s₁ B hml hv
  obtain ⟨rfl, rfl, hE⟩ := hv
  rw [lg_entry_eq]
  exact k ho p e s m _ below meth c [] _ 0 0 hG hE ⟨B.exec, B.bytes, hml, B.returns, B.notSynchronized, findClass_of_methodNamed B.named, (name_of_methodNamed B.named B.method).1⟩ (by simp; omega) (zLs_entry hav hl) (fun q h => by cases h) ho ho
theorem zC_mono {av : List Value} (h : zC G d M av H Q2) (hq : ∀ v H1, Q2 v H1 → Q v H1) : zC G d M av H Q := by
  intro ho p e ha hc hk s m args below hf happ hP hK
  obtain ⟨n, o, r1, r2, r3, ⟨⟨v, q1, q2, q3⟩, q4⟩⟩ := h ho p e ha hc hk s m args below hf happ hP hK
  exact ⟨n, o, r1, r2, r3, ⟨v, q1, hq v _ q2, q3⟩, q4⟩
/-- behind a call -/
theorem zw_after {rest : List Value} {p : Program} {e : Env} {s : State} {m : MethodId} {args : Array Value} {below : List Frame} {meth : Method} {c : Code} {locs : List Loc} {ls : Array Slot} {cells slots mc ms : Nat} {a : Array Value}
    (hr : va_Run p (zl G) e (zR G d s.heap) s m args below meth c H locs cells slots mc ms (F0 m pc ls st) rest (zQ G Q2 a) (zFr G)) (kk : ∀ v H1, Q2 v H1 → zOk G H1 → H.size ≤ H1.size → zT H ≤ zT H1 → zW G d M (pc + 3) lv (v.toList ++ rest) H1 Q)
    (g0 : zGo G) (g1 : zEnv G s) (A : zAt M p s m meth c) (h1 : lv.length = M.2.2.1) (h2 : zLs ls lv) (h3 : ∀ q ∈ locs, zFr G q.base) (h4 : zOk G s.heap) :
    W p (zl G) e (zR G d s.heap) s m args below meth c H locs cells slots (MQ below (zQ G Q) args s (zCp G - s.heap.size) (zSp G - zT s.heap) (zFr G)) (F0 m pc ls st) := by
  intro T hT X
  obtain ⟨v, st₀, t, T', L, e0, X', hL, e1, e2, ⟨v', hv, hq, hok, z1, z2⟩, go⟩ := hr T hT X
  cases hv
  rw [e0] at z1 z2
  have hlocs : ∀ q ∈ locs ++ L, zFr G q.base := fun q hq => by
    rcases List.mem_append.mp hq with h | h
    · exact h3 q h
    · exact hL q h
  obtain ⟨t2, a1, b1⟩ := kk v T'.heap (by rw [e1]; exact hq) (by rw [e1]; exact hok) (by rw [e1]; exact z1) (by rw [e1]; exact z2) p e s m args below meth c (locs ++ L) ls _ _ g0 g1 A h1 h2 hlocs h4 (by rw [e1]; exact hok) T' rfl X'
  exact ⟨t2, go t2 a1, b1⟩
/-- what all calls ask of the callee -/
def zCl (M2 : zMd) (n : Nat) : Prop := Cond.code M2.1 M2.2.1 M2.2.2.1 M2.2.2.2 ∈ lw_tbl ∧ Cond.initialized M2.1.cls ∈ lw_tbl ∧ (M2.1.cls ≠ "java/lang/invoke/MethodHandle" ∧ M2.1.cls ≠ "java/lang/invoke/VarHandle") ∧ (parseMethodDescriptor M2.1.desc).map (fun d => d.parameters.length) = some n ∧ M2.2.2.1 ≤ 22
def zLkS (own : String) (idx : Nat) (M2 : zMd) (n : Nat) : Prop := zCl M2 n ∧ Cond.static M2.1 ∈ lw_tbl ∧ (Cond.methodLink own idx M2.1 ∈ lw_tbl ∨ ∃ host : String, Cond.methodLinkNest own idx M2.1 host ∈ lw_tbl)
def zLkI (own : String) (idx : Nat) (M2 : zMd) (n : Nat) : Prop := zCl M2 n ∧ M2.2.2.2 = none ∧ M2.1.name = "<init>" ∧ Cond.instanceMethod M2.1 ∈ lw_tbl ∧ (Cond.methodLink own idx M2.1 ∈ lw_tbl ∨ ∃ host : String, Cond.methodLinkNest own idx M2.1 host ∈ lw_tbl)
/-- a virtual call: the receiver's class ci selects M2, which is what the pool names -/
def zLkV (own : String) (idx ci : Nat) (M2 : zMd) (n : Nat) : Prop := zCl M2 n ∧ (∃ (C : String) (T : u_T) (N : Nat), classes[ci]? = some (C, T, N) ∧ (Cond.selects C M2.1 M2.1 ∈ lw_tbl ∨ (Cond.privateMethod M2.1 ∈ lw_tbl ∧ Cond.sameMethod M2.1.cls M2.1.cls M2.1.name M2.1.desc ∈ lw_tbl))) ∧ Cond.instanceMethod M2.1 ∈ lw_tbl ∧ (Cond.methodLink own idx M2.1 ∈ lw_tbl ∨ ∃ host : String, Cond.methodLinkNest own idx M2.1 host ∈ lw_tbl)
/-- ... or what the pool names through a class that inherits it (x), found in its class 'owner' -/
def zLkU (own : String) (idx ci : Nat) (M2 : zMd) (n : Nat) : Prop := zCl M2 n ∧ (∃ (C : String) (T : u_T) (N : Nat) (x : MethodName) (owner : String), classes[ci]? = some (C, T, N) ∧ Cond.selects C x M2.1 ∈ lw_tbl ∧ Cond.methodLink own idx x ∈ lw_tbl ∧ Cond.sameMethod x.cls owner x.name x.desc ∈ lw_tbl ∧ M2.1 = ⟨owner, x.name, x.desc⟩ ∧ (parseMethodDescriptor x.desc).map (fun d => d.parameters.length) = some n) ∧ Cond.instanceMethod M2.1 ∈ lw_tbl
def zLkSU (own : String) (idx ci : Nat) (M2 : zMd) (n : Nat) : Prop := zCl M2 n ∧ (∃ (C : String) (T : u_T) (N : Nat), classes[ci]? = some (C, T, N)) ∧ Cond.methodLink own idx M2.1 ∈ lw_tbl ∧ Cond.sameMethod M2.1.cls M2.1.cls M2.1.name M2.1.desc ∈ lw_tbl ∧ Cond.superclass own M2.1.cls ∈ lw_tbl ∧ Cond.instanceMethod M2.1 ∈ lw_tbl ∧ M2.1.name ≠ "<init>"
theorem zLen {y : MethodName} {n : Nat} (h : (parseMethodDescriptor y.desc).map (fun d => d.parameters.length) = some n) : ∀ sig, parseMethodDescriptor y.desc = some sig → n = sig.parameters.length := fun sig hs => by
  rw [hs] at h
  exact (Option.some.inj h).symm
theorem zRoom {G : zG} {d n : Nat} {H H0 : Heap} (hd : 1 ≤ d) (hn : n ≤ 22) : (zR G (d - 1) H).frames + 1 ≤ (zR G d H0).frames ∧ 8 + (n + 11) + (zR G (d - 1) H).locals ≤ (zR G d H0).locals := by
  show d - 1 + 1 ≤ d ∧ 8 + (n + 11) + 41 * (d - 1) ≤ 41 * d
  omega
theorem zRoom2 {G : zG} {H0 H : Heap} (h5 : zOk G H) (b1 : H0.size ≤ H.size) (b2 : zT H0 ≤ zT H) : H.size - H0.size + (zCp G - H.size) ≤ (zR G d H0).cells ∧ zT H - zT H0 + (zSp G - zT H) ≤ (zR G d H0).slots := by
  have e1 := h5.2.2.1
  have e2 := h5.2.2.2
  show _ ≤ zCp G - H0.size ∧ _ ≤ zSp G - zT H0
  omega
theorem zLvR {m : MethodId} {ls : Array Slot} {rest : List Value} (h : rest.length ≤ 4) : 2 * (F0 m pc ls st).monitorRoom + (rest.map fun v => v.category).sum ≤ 8 := by
  have h1 := zCat_le rest
  have h2 : (F0 m pc ls st).monitorRoom = 0 := rfl
  omega
theorem zw_callS {idx n : Nat} (As rest : List Value) (hd : decode M.2.1 pc = .ok (.invokestatic idx, 3)) (hd1 : 1 ≤ d) (hL : zLkS M.1.cls idx M2 n) (hst : st = As.reverse ++ rest) (hn : As.length = n) (hr : rest.length ≤ 4) (hc : zC G (d - 1) M2 As H Q2) (kk : ∀ v H1, Q2 v H1 → zOk G H1 → H.size ≤ H1.size → zT H ≤ zT H1 → zW G d M (pc + 3) lv (v.toList ++ rest) H1 Q) : zW G d M pc lv st H Q := by
  intro p e s m args below meth c locs ls cells slots g0 g1 A h1 h2 h3 h4 h5
  obtain ⟨⟨k1, k2, k3, k4, k5⟩, k6, k7⟩ := hL
  refine zw_norm fun b1 b2 => zw_after (mc := zCp G - H.size) (ms := zSp G - zT H) (a := As.toArray) ?_ kk g0 g1 A h1 h2 h3 h4
  have hP : PreS s H (va_Pc As (fun U => U.heap = H ∧ zEnv G U)) As := ⟨zBlind, fun U hU hW => ⟨rfl, hU, State.WarmedH.trans g1 hW⟩⟩
  rcases k7 with k7 | ⟨host, k7⟩
  · exact va_runS (cc := M.2.1) (nL := M.2.2.1) (Ts := []) ⟨A.1, A.2.1, A.2.2.1, A.2.2.2.2.2.1, fun w h => by cases h⟩ (hc h5) ⟨⟨rfl, rfl, (zRoom hd1 k5).1, (zRoom hd1 k5).2, zWs g0 g1 k1, List.mem_singleton.mpr rfl, zWd g0 g1 k1 rfl, zWd g0 g1 k2 rfl, k3, zLen k4, zWd g0 g1 k7 rfl⟩, zWd g0 g1 k6 rfl⟩ hP rfl hn (h2.1.trans h1) hst (zLvR hr) hd (zRoom2 h5 b1 b2)
  · exact va_runSN (cc := M.2.1) (nL := M.2.2.1) (Ts := []) ⟨A.1, A.2.1, A.2.2.1, A.2.2.2.2.2.1, fun w h => by cases h⟩ (hc h5) ⟨⟨⟨rfl, rfl, (zRoom hd1 k5).1, (zRoom hd1 k5).2, zWs g0 g1 k1, List.mem_singleton.mpr rfl⟩, zWd g0 g1 k1 rfl, zWd g0 g1 k2 rfl, k3, zLen k4, va_Nw.use rfl (va_Nw.warmM g1 (va_Nw.of rfl (g0.1 _ k7)))⟩, zWd g0 g1 k6 rfl, trivial⟩ hP rfl hn (h2.1.trans h1) hst (zLvR hr) hd (zRoom2 h5 b1 b2)
theorem zw_callI {idx n b : Nat} (As rest : List Value) (hd : decode M.2.1 pc = .ok (.invokespecial idx, 3)) (hd1 : 1 ≤ d) (hL : zLkI M.1.cls idx M2 n) (hst : st = As.reverse ++ .ref b :: rest) (hn : As.length = n) (hr : rest.length ≤ 4) (hc : zC G (d - 1) M2 (.ref b :: As) H Q2) (kk : ∀ v H1, Q2 v H1 → zOk G H1 → H.size ≤ H1.size → zT H ≤ zT H1 → zW G d M (pc + 3) lv (v.toList ++ rest) H1 Q) : zW G d M pc lv st H Q := by
  intro p e s m args below meth c locs ls cells slots g0 g1 A h1 h2 h3 h4 h5
  obtain ⟨y, by2, nL2, ret⟩ := M2
  obtain ⟨⟨k1, k2, k3, k4, k5⟩, k6, k8, k9, k7⟩ := hL
  simp only at k6
  subst k6
  refine zw_norm fun b1 b2 => zw_after (mc := zCp G - H.size) (ms := zSp G - zT H) (a := (Value.ref b :: As).toArray) ?_ kk g0 g1 A h1 h2 h3 h4
  have hP : PreS s H (va_Pc (.ref b :: As) (fun U => U.heap = H ∧ zEnv G U)) (.ref b :: As) := ⟨zBlind, fun U hU hW => ⟨rfl, hU, State.WarmedH.trans g1 hW⟩⟩
  rcases k7 with k7 | ⟨host, k7⟩
  · exact va_runI (cc := M.2.1) (nL := M.2.2.1) (Ts := []) ⟨A.1, A.2.1, A.2.2.1, A.2.2.2.2.2.1, fun w h => by cases h⟩ (hc h5) ⟨⟨rfl, rfl, (zRoom hd1 k5).1, (zRoom hd1 k5).2, zWs g0 g1 k1, List.mem_singleton.mpr rfl, zWd g0 g1 k1 rfl, zWd g0 g1 k2 rfl, k3, zLen k4, zWd g0 g1 k7 rfl⟩, k8, zWd g0 g1 k9 rfl⟩ hP rfl hn (h2.1.trans h1) hst (zLvR hr) hd (zRoom2 h5 b1 b2)
  · exact va_runIN (cc := M.2.1) (nL := M.2.2.1) (Ts := []) ⟨A.1, A.2.1, A.2.2.1, A.2.2.2.2.2.1, fun w h => by cases h⟩ (hc h5) ⟨⟨⟨rfl, rfl, (zRoom hd1 k5).1, (zRoom hd1 k5).2, zWs g0 g1 k1, List.mem_singleton.mpr rfl⟩, zWd g0 g1 k1 rfl, zWd g0 g1 k2 rfl, k3, zLen k4, va_Nw.use rfl (va_Nw.warmM g1 (va_Nw.of rfl (g0.1 _ k7)))⟩, k8, zWd g0 g1 k9 rfl⟩ hP rfl hn (h2.1.trans h1) hst (zLvR hr) hd (zRoom2 h5 b1 b2)
theorem zw_callV {idx n b ci : Nat} (As rest : List Value) (hd : decode M.2.1 pc = .ok (.invokevirtual idx, 3)) (hd1 : 1 ≤ d) (hL : zLkV M.1.cls idx ci M2 n) (ho : zIs G H b ci) (hst : st = As.reverse ++ .ref b :: rest) (hn : As.length = n) (hr : rest.length ≤ 4) (hc : zC G (d - 1) M2 (.ref b :: As) H Q2) (kk : ∀ v H1, Q2 v H1 → zOk G H1 → H.size ≤ H1.size → zT H ≤ zT H1 → zW G d M (pc + 3) lv (v.toList ++ rest) H1 Q) : zW G d M pc lv st H Q := by
  intro p e s m args below meth c locs ls cells slots g0 g1 A h1 h2 h3 h4 h5
  obtain ⟨⟨k1, k2, k3, k4, k5⟩, ⟨C, T, N, kc, k6⟩, k9, k7⟩ := hL
  have hse : (Cond.selects C M2.1 M2.1).before args s = true := by
    rcases k6 with k6 | ⟨k6, k6'⟩
    · exact zWd g0 g1 k6 rfl
    · exact word_at g1 (Or.inl rfl) (zSelP (args := zAg G) k3 (g0.2.1 ci _ kc).2.1 (g0.1 _ k6) (g0.1 _ k9) (g0.1 _ k6'))
  refine zw_norm fun b1 b2 => zw_after (mc := zCp G - H.size) (ms := zSp G - zT H) (a := (Value.ref b :: As).toArray) ?_ kk g0 g1 A h1 h2 h3 h4
  have hP : PreV s H C b (va_Pc (.ref b :: As) (fun U => U.heap = H ∧ zEnv G U)) As := ⟨zBlind, ho.recv g0 g1 kc, fun U hU hW => ⟨rfl, hU, State.WarmedH.trans g1 hW⟩⟩
  rcases k7 with k7 | ⟨host, k7⟩
  · exact va_runV (cc := M.2.1) (nL := M.2.2.1) (Ts := []) ⟨A.1, A.2.1, A.2.2.1, A.2.2.2.2.2.1, fun w h => by cases h⟩ (hc h5) ⟨⟨rfl, rfl, (zRoom hd1 k5).1, (zRoom hd1 k5).2, zWs g0 g1 k1, List.mem_singleton.mpr rfl, zWd g0 g1 k1 rfl, zWd g0 g1 k2 rfl, k3, zLen k4, zWd g0 g1 k7 rfl⟩, zWd g0 g1 k9 rfl, hse⟩ hP rfl hn (h2.1.trans h1) hst (zLvR hr) hd (zRoom2 h5 b1 b2)
  · exact va_runVN (cc := M.2.1) (nL := M.2.2.1) (Ts := []) ⟨A.1, A.2.1, A.2.2.1, A.2.2.2.2.2.1, fun w h => by cases h⟩ (hc h5) ⟨⟨⟨rfl, rfl, (zRoom hd1 k5).1, (zRoom hd1 k5).2, zWs g0 g1 k1, List.mem_singleton.mpr rfl⟩, zWd g0 g1 k1 rfl, zWd g0 g1 k2 rfl, k3, zLen k4, va_Nw.use rfl (va_Nw.warmM g1 (va_Nw.of rfl (g0.1 _ k7)))⟩, zWd g0 g1 k9 rfl, hse⟩ hP rfl hn (h2.1.trans h1) hst (zLvR hr) hd (zRoom2 h5 b1 b2)
theorem zw_callU {idx n b ci : Nat} (As rest : List Value) (hd : decode M.2.1 pc = .ok (.invokevirtual idx, 3)) (hd1 : 1 ≤ d) (hL : zLkU M.1.cls idx ci M2 n) (ho : zIs G H b ci) (hst : st = As.reverse ++ .ref b :: rest) (hn : As.length = n) (hr : rest.length ≤ 4) (hc : zC G (d - 1) M2 (.ref b :: As) H Q2) (kk : ∀ v H1, Q2 v H1 → zOk G H1 → H.size ≤ H1.size → zT H ≤ zT H1 → zW G d M (pc + 3) lv (v.toList ++ rest) H1 Q) : zW G d M pc lv st H Q := by
  intro p e s m args below meth c locs ls cells slots g0 g1 A h1 h2 h3 h4 h5
  obtain ⟨⟨k1, k2, k3, k4, k5⟩, ⟨C, T, N, x, owner, kc, k6, k7, k8, ky, kx⟩, k9⟩ := hL
  refine zw_norm fun b1 b2 => zw_after (mc := zCp G - H.size) (ms := zSp G - zT H) (a := (Value.ref b :: As).toArray) ?_ kk g0 g1 A h1 h2 h3 h4
  have hP : PreV s H C b (va_Pc (.ref b :: As) (fun U => U.heap = H ∧ zEnv G U)) As := ⟨zBlind, ho.recv g0 g1 kc, fun U hU hW => ⟨rfl, hU, State.WarmedH.trans g1 hW⟩⟩
  have hdecl : va_Decl s ⟨owner, x.name, x.desc⟩ := by rw [← ky]; exact va_Decl.of (args := args) (zWd g0 g1 k9 rfl) (zWd g0 g1 k1 rfl)
  have hown : owner = M2.1.cls := by rw [ky]
  exact va_runU (cc := M.2.1) (nL := M.2.2.1) (Ts := []) ⟨A.1, A.2.1, A.2.2.1, A.2.2.2.2.2.1, fun w h => by cases h⟩ (hc h5) ⟨⟨rfl, rfl, (zRoom hd1 k5).1, (zRoom hd1 k5).2, zWs g0 g1 k1, List.mem_singleton.mpr rfl⟩, zWd g0 g1 k1 rfl, zWd g0 g1 k2 rfl, by rw [hown]; exact k3, zLen kx, zWd g0 g1 k7 rfl, zWd g0 g1 k8 rfl, hdecl, zWd g0 g1 k6 rfl, zWd g0 g1 k9 rfl⟩ hP rfl hn (h2.1.trans h1) hst (zLvR hr) hd (zRoom2 h5 b1 b2)
theorem zw_callSU {idx n b ci : Nat} (As rest : List Value) (hd : decode M.2.1 pc = .ok (.invokespecial idx, 3)) (hd1 : 1 ≤ d) (hL : zLkSU M.1.cls idx ci M2 n) (ho : zIs G H b ci) (hst : st = As.reverse ++ .ref b :: rest) (hn : As.length = n) (hr : rest.length ≤ 4) (hc : zC G (d - 1) M2 (.ref b :: As) H Q2) (kk : ∀ v H1, Q2 v H1 → zOk G H1 → H.size ≤ H1.size → zT H ≤ zT H1 → zW G d M (pc + 3) lv (v.toList ++ rest) H1 Q) : zW G d M pc lv st H Q := by
  intro p e s m args below meth c locs ls cells slots g0 g1 A h1 h2 h3 h4 h5
  obtain ⟨⟨k1, k2, k3, k4, k5⟩, ⟨C, T, N, kc⟩, k6, k7, k8, k9, k10⟩ := hL
  refine zw_norm fun b1 b2 => zw_after (mc := zCp G - H.size) (ms := zSp G - zT H) (a := (Value.ref b :: As).toArray) ?_ kk g0 g1 A h1 h2 h3 h4
  have hP : PreV s H C b (va_Pc (.ref b :: As) (fun U => U.heap = H ∧ zEnv G U)) As := ⟨zBlind, ho.recv g0 g1 kc, fun U hU hW => ⟨rfl, hU, State.WarmedH.trans g1 hW⟩⟩
  exact va_runSU (cc := M.2.1) (nL := M.2.2.1) (Ts := []) ((zK_at g0 g1).1 ci _ kc).2 ⟨A.1, A.2.1, A.2.2.1, A.2.2.2.2.2.1, fun w h => by cases h⟩ (hc h5) ⟨⟨rfl, rfl, (zRoom hd1 k5).1, (zRoom hd1 k5).2, zWs g0 g1 k1, List.mem_singleton.mpr rfl⟩, zWd g0 g1 k6 rfl, zWd g0 g1 k7 rfl, zWd g0 g1 k8 rfl, zWd g0 g1 k9 rfl, zWd g0 g1 k2 rfl, zWd g0 g1 k1 rfl, k10, zLen k4⟩ hP rfl hn (h2.1.trans h1) hst (zLvR hr) hd (zRoom2 h5 b1 b2)
/-- Object() -/
theorem zw_objInit {idx a : Nat} (hd : decode M.2.1 pc = .ok (.invokespecial idx, 3)) (hd1 : 1 ≤ d) (hw : Cond.methodLink M.1.cls idx objectInit ∈ lw_tbl) (hw2 : Cond.instanceMethod objectInit ∈ lw_tbl) (hw3 : Cond.code objectInit ⟨#[0xb1]⟩ 1 none ∈ lw_tbl) (hr : st.length ≤ 4) (kk : zW G d M (pc + 3) lv st H Q) : zW G d M pc lv (.ref a :: st) H Q := by
  intro p e s m args below meth c locs ls cells slots g0 g1 A h1 h2 h3 h4 h5
  refine W.objInit A.1 A.2.1 A.2.2.2.2.2.1 (zWd g0 g1 hw rfl) (zWd g0 g1 hw2 rfl) (zWd g0 g1 hw3 rfl) rfl (by rw [A.2.2.1]; exact h2.1.trans h1) rfl hd hd1 ?_ (kk p e s m args below meth c locs ls cells slots g0 g1 A h1 h2 h3 h4 h5)
  have e1 := zCat_le st
  show 2 * 0 + (st.map fun v => v.category).sum + 12 ≤ 41 * d
  omega
end ZC
