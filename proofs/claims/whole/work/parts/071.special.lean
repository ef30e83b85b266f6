theorem zC_in {G : zG} {d : Nat} {M : zMd} {av : List Value} {H : Heap} {Q : Option Value → Heap → Prop} (lv : List (Option Value)) (hp : plainFor M.1 = true) (hG : zGo G) (hav : av.all (fun v => v.category == 1) = true) (hl : av.length ≤ M.2.2.1) (hlv : av.map some ++ List.replicate (M.2.2.1 - av.length) none = lv) (k : zOk G H → zW G d M 0 lv [] H Q) : zC G d M av H Q := by
  subst hlv
  exact zC_of hp hG (fun v hv => by simpa using List.all_eq_true.mp hav v hv) hl k
section ZX
variable {G : zG} {d : Nat} {M : zMd} {pc : Nat} {lv : List (Option Value)} {st : List Value} {H : Heap} {Q : Option Value → Heap → Prop}
theorem zw_aaldV {a n : Nat} {ty : FieldType} {f : Nat → Value} {i : Int32} {v : Value} (hd : decode M.2.1 pc = .ok (.aaload, 1)) (hr : ty.isReference = true) (hA : zArr G H a ty n f) (hi : vp_in i n) (hv : f i.toNatClampNeg = v) (kk : zW G d M (pc + 1) lv (v :: st) H Q) : zW G d M pc lv (.int i :: .ref a :: st) H Q := by
  subst hv
  exact zw_aald hd hr hA hi kk
/-- new Object[] -/
theorem zw_anew {idx N : Nat} {n : Int32} (hd : decode M.2.1 pc = .ok (.anewarray idx, 3)) (hw : Cond.classLink M.1.cls idx "java/lang/Object" ∈ lw_tbl) (hw2 : Cond.arrayOver (.object "java/lang/Object") ∈ lw_tbl) (hn : ¬ n < 0) (hN : n.toNatClampNeg = N) (hb : N * 4 ≤ 536870912) (hc1 : H.size + 1 ≤ zCp G) (hs1 : zT H + N ≤ zSp G) (kk : ∀ H1 : Heap, zArr G H1 H.size (.object "java/lang/Object") N (fun _ => .null) → zNw N H H1 → zW G d M (pc + 3) lv (.ref H.size :: st) H1 Q) : zW G d M pc lv (.int n :: st) H Q := by
  intro p e s m args below meth c locs ls cells slots g0 g1 A h1 h2 h3 h4 h5
  subst hN
  refine zw_norm fun b1 b2 => ?_
  have hsl := h5.2.2
  refine W.anew A.1 A.2.1 A.2.2.2.2.2.1 (zWd g0 g1 hw rfl) (va_AO.use ((va_AO.of (g0.1 _ hw2)).moved g1.alike)) rfl hd rfl hn hb (by show _ ≤ zCp G - s.heap.size; omega) (by show _ ≤ zSp G - zT s.heap; omega) fun cA kA comp f1 f2 f3 f4 => ?_
  have hnw : zNw n.toNatClampNeg H (H.push ({ cls := cA, slots := Array.replicate n.toNatClampNeg .null, vm := .none } : Cell)) := by
    have := zNw_push H ({ cls := cA, slots := Array.replicate n.toNatClampNeg .null, vm := .none } : Cell)
    rw [show (({ cls := cA, slots := Array.replicate n.toNatClampNeg .null, vm := .none } : Cell).slots.size) = n.toNatClampNeg by simp] at this
    exact this
  obtain ⟨k0, hk0, he⟩ := g1.alike.symm.2.2 _ _ f2
  refine kk _ ⟨_, Array.getElem?_push_size, ⟨(fun k h => (by cases h)), k0, hk0, comp, (by rw [he]; exact f3)⟩, (fun h => (by cases h)), (by simp), (fun j hj => (by simp [hj])), (fun _ => (show va_RA s cA (.object "java/lang/Object") from ⟨kA, comp, f2, f3, f4, f1⟩).moved g1.alike.symm)⟩ hnw p e s m args below meth c locs ls _ _ g0 g1 A h1 h2 h3 h4 (hnw.ok hc1 hs1 h5)
/-- an object into an Object[] -/
theorem zw_aast {a b n ci N : Nat} {C : String} {T : u_T} {f : Nat → Value} {i : Int32} (hd : decode M.2.1 pc = .ok (.aastore, 1)) (hA : zArr G H a (.object "java/lang/Object") n f) (hi : vp_in i n) (ha : zFr G a) (hv : zIs G H b ci) (hc : classes[ci]? = some (C, T, N)) (hw : Cond.castable C "java/lang/Object" ∈ lw_tbl) (kk : ∀ H1 : Heap, zArr G H1 a (.object "java/lang/Object") n (updV f i.toNatClampNeg (.ref b)) → zUp a H H1 → zW G d M (pc + 1) lv st H1 Q) : zW G d M pc lv (.ref b :: .int i :: .ref a :: st) H Q := by
  intro p e s m args below meth c locs ls cells slots g0 g1 A h1 h2 h3 h4 h5
  obtain ⟨cell, q1, q2, q3, q4, q5, q6⟩ := hA
  obtain ⟨kA, comp, k1, k2, k3, -⟩ := (q6 ha).moved g1.alike
  obtain ⟨cv, v1, v2, v3⟩ := hv
  obtain ⟨c0, t0, f1, f2, f3⟩ := Cond.castable_spec (va_Nw.use (A := args) rfl (va_Nw.warmC g1 (va_Nw.of rfl (g0.1 _ hw))))
  have hcl := ((zK_at g0 g1).1 ci _ hc).2
  obtain ⟨kC, hkC, -⟩ := hcl.2
  have e1 : c0 = (zD G).1 ci := Option.some.inj (f1.symm.trans hcl.1)
  have e2 : t0 = comp := Option.some.inj (f2.symm.trans k3)
  subst e1 e2
  obtain ⟨kO, hkO, -⟩ := Vm.findClass_spec k3
  refine W.aast A.1 A.2.1 q1 q2.1 q3 k1 k2 rfl hkO ⟨fun z => hi (Or.inl z), by rw [q4]; exact Nat.not_le.mp fun z => hi (Or.inr z)⟩ v1 (fun q h => by rw [h] at v2; cases v2) (by rw [v3]; exact hkC) (by rw [v3]; exact f3) rfl rfl hd fun H' e1 e2 e3 => ?_
  have hu : zUp a H H' := zUp_of q1 e1 (by simp [Cell.setSlot]) e2 e3
  refine kk H' (zArr_set q2 q3 q4 q5 q6 e1) hu p e s m args below meth c _ ls cells slots g0 g1 A h1 h2 (fun q hq => ?_) h4 (hu.ok ha h5)
  rcases List.mem_append.mp hq with h | h
  · exact h3 q h
  · rw [List.mem_singleton.mp h]
    exact ha
/-- null into an Object[] -/
theorem zw_aastN {a n : Nat} {f : Nat → Value} {i : Int32} (hd : decode M.2.1 pc = .ok (.aastore, 1)) (hA : zArr G H a (.object "java/lang/Object") n f) (hi : vp_in i n) (ha : zFr G a) (kk : ∀ H1 : Heap, zArr G H1 a (.object "java/lang/Object") n (updV f i.toNatClampNeg .null) → zUp a H H1 → zW G d M (pc + 1) lv st H1 Q) : zW G d M pc lv (.null :: .int i :: .ref a :: st) H Q := by
  intro p e s m args below meth c locs ls cells slots g0 g1 A h1 h2 h3 h4 h5
  obtain ⟨cell, q1, q2, q3, q4, q5, q6⟩ := hA
  refine va_WaastN (C := "java/lang/Object") A.1 A.2.1 q1 (State.isArrayOf_alike g1.alike q2) q3 (by rw [q4]; exact hi) rfl rfl hd fun H' e1 e2 e3 => ?_
  have hu : zUp a H H' := zUp_of q1 e1 (by simp [Cell.setSlot]) e2 e3
  refine kk H' (zArr_set q2 q3 q4 q5 q6 e1) hu p e s m args below meth c _ ls cells slots g0 g1 A h1 h2 (fun q hq => ?_) h4 (hu.ok ha h5)
  rcases List.mem_append.mp hq with h | h
  · exact h3 q h
  · rw [List.mem_singleton.mp h]
    exact ha
theorem zPairs (at_ : Nat) : ∀ (xs : List Value) (i : Nat) (c : Cell) (k : Nat), k < c.slots.size → (c.storePairs at_ (xs.zipIdx i)).slots[k]? = if at_ + i ≤ k ∧ k < at_ + i + xs.length then xs[k - (at_ + i)]? else c.slots[k]?
  | [], i, c, k, hk => by
    rw [if_neg (by simp only [List.length_nil]; omega)]
    rfl
  | x :: xs, i, c, k, hk => by
    rw [List.zipIdx_cons]
    show ((c.setSlot (at_ + i) x).storePairs at_ (xs.zipIdx (i + 1))).slots[k]? = _
    rw [zPairs at_ xs (i + 1) (c.setSlot (at_ + i) x) k (by simpa [Cell.setSlot] using hk)]
    by_cases e : k = at_ + i
    · subst e
      rw [if_neg (by omega), if_pos (by simp only [List.length_cons]; omega), Cell.slots_setSlot_self x hk]
      simp
    · by_cases h : at_ + (i + 1) ≤ k ∧ k < at_ + (i + 1) + xs.length
      · rw [if_pos h, if_pos (by simp only [List.length_cons]; omega), show k - (at_ + i) = (k - (at_ + (i + 1))) + 1 by omega, List.getElem?_cons_succ]
      · rw [if_neg h, if_neg (by simp only [List.length_cons]; omega), slot_ne _ _ (fun q => e q.symm)]
theorem zStretch {c : Cell} {sp n i n0 : Nat} {f : Nat → Value} (q4 : c.slots.size = n0) (q5 : ∀ j : Nat, j < n0 → c.slots[j]? = some (f j)) (h : sp + n ≤ n0) (hi : i < n) : (c.stretch sp n)[i]? = some (f (sp + i)) := by
  unfold Cell.stretch
  rw [List.getElem?_map, List.getElem?_range hi]
  simp only [Option.map_some]
  rw [Array.getD_eq_getD_getElem?, q5 _ (by omega)]
  rfl
theorem zCopied {cs cd : Cell} {sp dp n : Int32} {n0 n1 : Nat} {f g : Nat → Value} (a4 : cs.slots.size = n0) (a5 : ∀ j : Nat, j < n0 → cs.slots[j]? = some (f j)) (b4 : cd.slots.size = n1) (b5 : ∀ j : Nat, j < n1 → cd.slots[j]? = some (g j)) (h4 : sp.toNatClampNeg + n.toNatClampNeg ≤ n0) (h5 : dp.toNatClampNeg + n.toNatClampNeg ≤ n1) :
    ∀ j : Nat, j < n1 → (copied cs cd sp dp n).slots[j]? = some (va_cpy f g sp.toNatClampNeg dp.toNatClampNeg n.toNatClampNeg j) := by
  intro j hj
  have hl : (cs.stretch sp.toNatClampNeg n.toNatClampNeg).length = n.toNatClampNeg := by simp [Cell.stretch]
  show ((cd.storePairs dp.toNatClampNeg ((cs.stretch sp.toNatClampNeg n.toNatClampNeg).zipIdx 0)).slots)[j]? = _
  rw [zPairs _ _ 0 cd j (by omega), hl, Nat.add_zero]
  unfold va_cpy
  by_cases h : dp.toNatClampNeg ≤ j ∧ j < dp.toNatClampNeg + n.toNatClampNeg
  · rw [if_pos h, if_pos h, zStretch a4 a5 h4 (by omega)]
  · rw [if_neg h, if_neg h]
    exact b5 j hj
theorem zNn {z : Int32} (hz : ¬ z < 0) : z.toInt = (z.toNatClampNeg : Int) := by
  have hz0 : (0 : Int) ≤ z.toInt := by
    have := Int32.not_lt.mp hz
    simpa using Int32.le_iff_toInt_le.mp this
  show z.toInt = ((z.toInt.toNat : Nat) : Int)
  omega
/-- what may be copied into an array of ty: a number that fits; null, or an object of a known class into an Object[] -/
def zCpv (G : zG) (H : Heap) (ty : FieldType) (v : Value) : Prop := (refKind ty = false ∧ fits ty v = true ∧ ∃ x : Int32, v = .int x) ∨ (ty = .object "java/lang/Object" ∧ (v = .null ∨ ∃ (b ci N : Nat) (C : String) (T : u_T), v = .ref b ∧ zIs G H b ci ∧ classes[ci]? = some (C, T, N) ∧ Cond.castable C "java/lang/Object" ∈ lw_tbl))
theorem zw_copy {idx a0 a1 n0 n1 : Nat} {ty : FieldType} {f g : Nat → Value} {sp dp n : Int32} (hd : decode M.2.1 pc = .ok (.invokestatic idx, 3)) (hd1 : 1 ≤ d) (hw : Cond.methodLink M.1.cls idx arraycopyName ∈ lw_tbl) (hw1 : Cond.native arraycopyName ∈ lw_tbl) (hw2 : Cond.static arraycopyName ∈ lw_tbl) (hw3 : Cond.initialized "java/lang/System" ∈ lw_tbl)
    (hA : zArr G H a0 ty n0 f) (hB : zArr G H a1 ty n1 g) (ha : zFr G a1) (s1 : ¬ sp < 0) (s2 : ¬ dp < 0) (s3 : ¬ n < 0) (s4 : sp.toNatClampNeg + n.toNatClampNeg ≤ n0) (s5 : dp.toNatClampNeg + n.toNatClampNeg ≤ n1) (hfit : ∀ i : Nat, i < n.toNatClampNeg → zCpv G H ty (f (sp.toNatClampNeg + i))) (hr : st.length ≤ 4)
    (kk : ∀ H1 : Heap, zArr G H1 a1 ty n1 (va_cpy f g sp.toNatClampNeg dp.toNatClampNeg n.toNatClampNeg) → zUp a1 H H1 → zW G d M (pc + 3) lv st H1 Q) : zW G d M pc lv (.int n :: .int dp :: .ref a1 :: .int sp :: .ref a0 :: st) H Q := by
  intro p e s m args below meth c locs ls cells slots g0 g1 A h1 h2 h3 h4 h5
  obtain ⟨cs, p1, p2, p3, p4, p5, p6⟩ := hA
  obtain ⟨cd, r1, r2, r3, r4, r5, r6⟩ := hB
  obtain ⟨-, k0, hk0, cm0, hkk0⟩ := State.isArrayOf_alike g1.alike p2
  obtain ⟨-, k1, hk1, cm1, hkk1⟩ := State.isArrayOf_alike g1.alike r2
  intro T hT X
  obtain ⟨vm', X', step⟩ := X.arraycopy A.1 A.2.2.2.2.2.1 (zWd g0 g1 hw rfl) (zWd g0 g1 hw1 rfl) (zWd g0 g1 hw2 rfl) (zWd g0 g1 hw3 rfl) (src := a0) (dst := a1) (cs := cs) (cd := cd) (srcPos := sp) (destPos := dp) (n := n) (by rw [hT]; exact p1) (by rw [hT]; exact r1)
    p2.1 r2.1 p3 r3 hk0 hk1 hkk0 hkk1 (by simp) s1 s2 s3
    (by rw [zNn s1, zNn s3, p4]; omega)
    (by rw [zNn s2, zNn s3, r4]; omega)
    (fun vm₁ hal i hi => by
      have e : cs.slots.getD (sp.toNatClampNeg + i) .null = f (sp.toNatClampNeg + i) := by
        rw [Array.getD_eq_getD_getElem?, p5 _ (by omega)]
        rfl
      rw [e]
      rcases hfit i hi with ⟨z1, z2, x, z3⟩ | ⟨rfl, z⟩
      · rw [z3] at z2 ⊢
        exact ⟨z2, trivial⟩
      · rcases z with z | ⟨b, ci, N, C, T2, z, z1, z2, z3⟩
        · rw [z]
          exact ⟨rfl, trivial⟩
        · rw [z]
          obtain ⟨kA, comp, t1, t2, t3, -⟩ := (r6 ha).moved g1.alike
          cases hk1.symm.trans t1
          cases hkk1.symm.trans t2
          obtain ⟨cv, v1, v2, v3⟩ := z1
          obtain ⟨c0, t0, f1, f2, f3⟩ := Cond.castable_spec (va_Nw.use (A := args) rfl (va_Nw.warmC g1 (va_Nw.of rfl (g0.1 _ z3))))
          have hcl := ((zK_at g0 g1).1 ci _ z2).2
          obtain ⟨kC, hkC, -⟩ := hcl.2
          have e1 : c0 = (zD G).1 ci := Option.some.inj (f1.symm.trans hcl.1)
          have e2 : t0 = cm1 := Option.some.inj (f2.symm.trans t3)
          subst e1 e2
          obtain ⟨kE, hkE, -⟩ := Vm.findClass_spec t3
          obtain ⟨kC', hkC', -⟩ := hal.2.2 _ _ hkC
          obtain ⟨kE', hkE', -⟩ := hal.2.2 _ _ hkE
          refine ⟨rfl, cv, (show T.heap[b]? = some cv by rw [hT]; exact v1), (fun q h => by rw [h] at v2; cases v2), ⟨kC', by rw [v3]; exact hkC'⟩, ⟨kE', hkE'⟩, ?_⟩
          show vm₁.assignable _ _ = true
          rw [hal.assignable, v3]
          exact f3)
    (g := F0 m pc ls (.int n :: .int dp :: .ref a1 :: .int sp :: .ref a0 :: st)) rfl (by rw [A.2.2.1]; exact h2.1.trans h1) (rest := st) rfl (by rw [A.2.1]; exact hd) hd1
    (by
      have e1 := zCat_le st
      have hw : nativeFrameWords "java/lang/System" "arraycopy" 5 = 7 := by decide
      show 2 * 0 + (st.map fun v => v.category).sum + (nativeFrameWords "java/lang/System" "arraycopy" 5 + 11) ≤ 41 * d
      omega)
  have hl : a1 < H.size := (Array.getElem?_eq_some_iff.mp r1).1
  have hf := Cell.storePairs_facts cd dp.toNatClampNeg (cs.stretch sp.toNatClampNeg n.toNatClampNeg).zipIdx
  have hcell : (H.setIfInBounds a1 (copied cs cd sp dp n))[a1]? = some (copied cs cd sp dp n) := by simp [Array.getElem?_setIfInBounds, hl]
  have hu : zUp a1 H (H.setIfInBounds a1 (copied cs cd sp dp n)) := zUp_of r1 hcell hf.2.2.1 (by simp) (fun q hq => by simp [Array.getElem?_setIfInBounds, Ne.symm hq])
  have hheap : ((T.setVm vm').setCell a1 (copied cs cd sp dp n)).heap = H.setIfInBounds a1 (copied cs cd sp dp n) := by rw [← hT]; rfl
  have hz : zArr G (H.setIfInBounds a1 (copied cs cd sp dp n)) a1 ty n1 (va_cpy f g sp.toNatClampNeg dp.toNatClampNeg n.toNatClampNeg) := by
    refine ⟨_, hcell, ⟨?_, ?_⟩, ?_, ?_, zCopied p4 p5 r4 r5 s4 s5, ?_⟩
    · intro k
      rw [show (copied cs cd sp dp n).vm = cd.vm from hf.2.1]
      exact r2.1 k
    · rw [show (copied cs cd sp dp n).cls = cd.cls from hf.1]
      exact r2.2
    · rw [show (copied cs cd sp dp n).vm = cd.vm from hf.2.1]
      exact r3
    · exact hf.2.2.1.trans r4
    · rw [show (copied cs cd sp dp n).cls = cd.cls from hf.1]
      exact r6
  obtain ⟨t, b1, b2⟩ := kk _ hz hu p e s m args below meth c _ ls cells slots g0 g1 A h1 h2 (fun q hq => by
      rcases List.mem_append.mp hq with h | h
      · exact h3 q h
      · obtain ⟨z, -, hz⟩ := List.mem_map.mp h
        rw [← hz]
        exact ha) h4 (hu.ok ha h5) _ hheap X'
  exact ⟨t, step t b1, b2⟩
/-- byte[].clone() -/
theorem zw_cloneB {idx a n : Nat} {f : Nat → Value} (hd : decode M.2.1 pc = .ok (.invokevirtual idx, 3)) (hd1 : 1 ≤ d) (hw : Cond.methodLink M.1.cls idx ⟨"[B", "clone", "()Ljava/lang/Object;"⟩ ∈ lw_tbl) (hw1 : Cond.sameMethod "[B" "java/lang/Object" "clone" "()Ljava/lang/Object;" ∈ lw_tbl) (hw2 : Cond.native ⟨"java/lang/Object", "clone", "()Ljava/lang/Object;"⟩ ∈ lw_tbl) (hw3 : Cond.instanceMethod ⟨"java/lang/Object", "clone", "()Ljava/lang/Object;"⟩ ∈ lw_tbl)
    (hw4 : Cond.selects "[B" ⟨"[B", "clone", "()Ljava/lang/Object;"⟩ ⟨"java/lang/Object", "clone", "()Ljava/lang/Object;"⟩ ∈ lw_tbl) (hw5 : Cond.castable "[B" "java/lang/Cloneable" ∈ lw_tbl) (hA : zArr G H a .byte n f) (ha : zFr G a) (hfit : ∀ j : Nat, j < n → fits .byte (f j) = true) (hc1 : H.size + 1 ≤ zCp G) (hs1 : zT H + n ≤ zSp G) (hr : st.length ≤ 4)
    (kk : ∀ H1 : Heap, zArr G H1 H.size .byte n f → zNw n H H1 → zW G d M (pc + 3) lv (.ref H.size :: st) H1 Q) : zW G d M pc lv (.ref a :: st) H Q := by
  intro p e s m args below meth c locs ls cells slots g0 g1 A h1 h2 h3 h4 h5
  refine zw_norm fun b1 b2 => ?_
  have hsl := h5.2.2
  obtain ⟨cell, q1, q2, q3, q4, q5, q6⟩ := hA
  have hnm : s.vm.findClass "[B" = some cell.cls := (q6 ha).moved g1.alike
  obtain ⟨c0, t0', f1, f2, f3⟩ := Cond.castable_spec (va_Nw.use (A := args) rfl (va_Nw.warmC g1 (va_Nw.of rfl (g0.1 _ hw5))))
  cases hnm.symm.trans f1
  intro T hT X
  obtain ⟨-, kA, hkA, comp, hkind⟩ := State.isArrayOf_alike X.warmed.alike (State.isArrayOf_alike g1.alike q2)
  obtain ⟨-, kS, hkS, compS, hkindS⟩ := State.isArrayOf_alike g1.alike q2
  obtain ⟨vm', X', st'⟩ := X.cloneArray A.1 A.2.2.2.2.2.1 (zWd g0 g1 hw rfl) (zWd g0 g1 hw1 rfl) (zWd g0 g1 hw2 rfl) (zWd g0 g1 hw3 rfl) (zWd g0 g1 hw4 rfl) (a := a) (cell := cell) (by rw [hT]; exact q1) q2.1 q3 hnm f2 f3
    (fun i v hv => by
      have hin : i < n := by
        have := (Array.getElem?_eq_some_iff.mp hv).1
        omega
      have hv2 : v = f i := by
        rw [q5 i hin] at hv
        exact (Option.some.inj hv).symm
      have hk' : T.vm.classes[cell.cls]? = some kA := hkA
      have hz := hfit i hin
      rw [← hv2] at hz
      simpa [State.fitsSlot, State.slotType?, hk', hkind] using hz)
    (g := F0 m pc ls (.ref a :: st)) rfl (by rw [A.2.2.1]; exact h2.1.trans h1) rfl (by rw [A.2.1]; exact hd) hd1 (by
      have e1 := zCat_le st
      show 2 * 0 + (st.map fun v => v.category).sum + 14 ≤ 41 * d
      omega) (by show _ ≤ zCp G - s.heap.size; omega) (by rw [q4]; show _ ≤ zSp G - zT s.heap; omega) (hloader := Vm.clonesLoader_of_array hkS hkindS)
  have hnw : zNw n H (H.push ({ cls := cell.cls, slots := cell.slots } : Cell)) := by
    have := zNw_push H ({ cls := cell.cls, slots := cell.slots } : Cell)
    rw [show (({ cls := cell.cls, slots := cell.slots } : Cell).slots.size) = n from q4] at this
    exact this
  obtain ⟨t, c1, c2⟩ := kk (H.push ({ cls := cell.cls, slots := cell.slots } : Cell)) ⟨_, Array.getElem?_push_size, ⟨(fun k h => (by cases h)), q2.2⟩, (fun h => (by cases h)), q4, q5, fun _ => q6 ha⟩ hnw p e s m args below meth c locs ls _ _ g0 g1 A h1 h2 h3 h4 (hnw.ok hc1 hs1 h5) ((T.setVm vm').pushCell ({ cls := cell.cls, slots := cell.slots } : Cell)) (by rw [← hT]; rfl) X'
  refine ⟨t, st' t ?_, c2⟩
  rw [hT]
  exact c1
/-- checkcast of an array of that very class -/
theorem zw_castA {idx a n : Nat} {ty : FieldType} {f : Nat → Value} (nm : String) (hd : decode M.2.1 pc = .ok (.checkcast idx, 3)) (hw : Cond.classLink M.1.cls idx nm ∈ lw_tbl) (hA : zArr G H a ty n f) (hnm : ∀ cell : Cell, H[a]? = some cell → (zS G).vm.findClass nm = some cell.cls) (kk : zW G d M (pc + 3) lv (.ref a :: st) H Q) : zW G d M pc lv (.ref a :: st) H Q := by
  intro p e s m args below meth c locs ls cells slots g0 g1 A h1 h2 h3 h4 h5
  obtain ⟨cell, q1, q2, q3, q4, q5, q6⟩ := hA
  have hs : cell.vm.isStatics = false := by
    cases hv : cell.vm <;> first | rfl | exact absurd hv (q2.1 _)
  intro T hT X
  obtain ⟨vm', X', st'⟩ := X.checkcastYes A.1 A.2.2.2.2.2.1 (zWd g0 g1 hw rfl) (by rw [hT]; exact q1) hs (by rw [g1.alike.findClass]; exact hnm cell q1) (va_asg _ _) (g := F0 m pc ls (.ref a :: st)) rfl rfl (by rw [A.2.1]; exact hd)
  obtain ⟨t, a1, b1⟩ := kk p e s m args below meth c locs ls cells slots g0 g1 A h1 h2 h3 h4 h5 (T.setVm vm') hT X'
  exact ⟨t, st' t a1, b1⟩
theorem zArr.nmB {a n : Nat} {f : Nat → Value} (h : zArr G H a .byte n f) (ha : zFr G a) : ∀ cell : Cell, H[a]? = some cell → (zS G).vm.findClass "[B" = some cell.cls := by
  obtain ⟨cell, q1, q2, q3, q4, q5, q6⟩ := h
  intro c' hc
  rw [q1] at hc
  cases hc
  exact q6 ha
theorem zArr.nmO {a n : Nat} {f : Nat → Value} (h : zArr G H a (.object "java/lang/Object") n f) (ha : zFr G a) : ∀ cell : Cell, H[a]? = some cell → (zS G).vm.findClass "[Ljava/lang/Object;" = some cell.cls := by
  obtain ⟨cell, q1, q2, q3, q4, q5, q6⟩ := h
  intro c' hc
  rw [q1] at hc
  cases hc
  exact va_nmO (q6 ha) rfl
/-- getClass() of an Object[], and the constant Object[].class -/
theorem zw_getCO {idx a n mi : Nat} {f : Nat → Value} (hd : decode M.2.1 pc = .ok (.invokevirtual idx, 3)) (hd1 : 1 ≤ d) (hw : Cond.methodLink M.1.cls idx ⟨"java/lang/Object", "getClass", "()Ljava/lang/Class;"⟩ ∈ lw_tbl) (hw1 : Cond.declares ⟨"java/lang/Object", "getClass", "()Ljava/lang/Class;"⟩ ∈ lw_tbl) (hw2 : Cond.selects "[Ljava/lang/Object;" ⟨"java/lang/Object", "getClass", "()Ljava/lang/Class;"⟩ ⟨"java/lang/Object", "getClass", "()Ljava/lang/Class;"⟩ ∈ lw_tbl) (hw3 : Cond.instanceMethod ⟨"java/lang/Object", "getClass", "()Ljava/lang/Class;"⟩ ∈ lw_tbl) (hw4 : Cond.native ⟨"java/lang/Object", "getClass", "()Ljava/lang/Class;"⟩ ∈ lw_tbl)
    (hM : va_Mi "[Ljava/lang/Object;" mi (zS G)) (hA : zArr G H a (.object "java/lang/Object") n f) (ha : zFr G a) (hr : st.length ≤ 4) (kk : zW G d M (pc + 3) lv (.ref mi :: st) H Q) : zW G d M pc lv (.ref a :: st) H Q := by
  intro p e s m args below meth c locs ls cells slots g0 g1 A h1 h2 h3 h4 h5
  have hn := hA.nmO ha
  obtain ⟨cell, q1, q2, q3, q4, q5, q6⟩ := hA
  have hs : cell.vm.isStatics = false := by
    cases hv : cell.vm <;> first | rfl | exact absurd hv (q2.1 _)
  refine va_getC A.1 A.2.1 (by rw [A.2.2.1]; exact (h2.1.trans h1).symm) A.2.2.2.2.2.1 (zWd g0 g1 hw rfl) (va_Dc.use ((va_Dc.of (g0.1 _ hw1)).moved g1.alike)) (zWd g0 g1 hw2 rfl) (zWd g0 g1 hw3 rfl) (zWd g0 g1 hw4 rfl) (hM.moved g1.alike) ⟨cell, q1, hs, by rw [g1.alike.findClass]; exact hn cell q1⟩ hd1 ?_ hd (kk p e s m args below meth c locs ls cells slots g0 g1 A h1 h2 h3 h4 h5)
  have e1 := zCat_le st
  show (st.map fun v => v.category).sum + 14 ≤ 41 * d
  omega
theorem zw_ldcM {idx mi : Nat} {C : String} (hd : decode M.2.1 pc = .ok (.ldc idx, 2)) (hw : Cond.classLink M.1.cls idx C ∈ lw_tbl) (hM : va_Mi C mi (zS G)) (kk : zW G d M (pc + 2) lv (.ref mi :: st) H Q) : zW G d M pc lv st H Q :=
  fun p e s m args below meth c locs ls cells slots g0 g1 A h1 h2 h3 h4 h5 => va_ldcM A.1 A.2.1 A.2.2.2.2.2.1 (zWd g0 g1 hw rfl) (hM.moved g1.alike) hd (kk p e s m args below meth c locs ls cells slots g0 g1 A h1 h2 h3 h4 h5)
/-- ldc2_w of a long -/
theorem zw_ldc2 {idx : Nat} {v : Int64} (hd : decode M.2.1 pc = .ok (.ldc2_w idx, 3)) (hw : Cond.constantLong M.1.cls idx v ∈ lw_tbl) (kk : zW G d M (pc + 3) lv (.long v :: st) H Q) : zW G d M pc lv st H Q :=
  fun p e s m args below meth c locs ls cells slots g0 g1 A h1 h2 h3 h4 h5 => lv_ldc2 A.1 A.2.1 A.2.2.2.2.2.1 (zWd g0 g1 hw rfl) hd (kk p e s m args below meth c locs ls cells slots g0 g1 A h1 h2 h3 h4 h5)
end ZX
