/-! A LAYER OVER W. One judgement zW with nothing of the machine in it but a frame (pc, locals, stack) and a heap; the room is in the heap's own size (caps), the words come from the law's entry state. -/
abbrev zG : Type := Launch × State × va_G × Nat × Nat × (Nat → Nat) × Array Value
def zl (G : zG) : Launch := G.1
def zS (G : zG) : State := G.2.1
def zD (G : zG) : va_G := G.2.2.1
def zCp (G : zG) : Nat := G.2.2.2.1
def zSp (G : zG) : Nat := G.2.2.2.2.1
def zKa (G : zG) : Nat → Nat := G.2.2.2.2.2.1
def zAg (G : zG) : Array Value := G.2.2.2.2.2.2
abbrev zMd : Type := MethodName × ByteArray × Nat × Option FieldType
def zT (H : Heap) : Nat := (H.toList.map (fun c => c.slots.size)).sum
def zFr (G : zG) : Nat → Prop := fun q => (zS G).heap.size ≤ q
def zOk (G : zG) (H : Heap) : Prop := (zS G).heap.size ≤ H.size ∧ (∀ q : Nat, q < (zS G).heap.size → H[q]? = (zS G).heap[q]?) ∧ H.size ≤ zCp G ∧ zT H ≤ zSp G
def zR (G : zG) (d : Nat) (H : Heap) : Room := { frames := d, cells := zCp G - H.size, slots := zSp G - zT H, locals := 41 * d }
def zQ (G : zG) (Q : Option Value → Heap → Prop) : Array Value → State → Outcome → State → Prop := fun _ st o t => ∃ v, o = .returned v ∧ Q v t.heap ∧ zOk G t.heap ∧ st.heap.size ≤ t.heap.size ∧ zT st.heap ≤ zT t.heap
/-- every state that we meet is a warmer one of the law's entry -/
def zEnv (G : zG) (U : State) : Prop := (zS G).WarmedH U.vm
/-- what we know of the law's entry state -/
def zGo (G : zG) : Prop := (∀ w ∈ lw_tbl, w.before (zAg G) (zS G) = true) ∧ va_K (zD G) classes [] (zS G)
def zAt (M : zMd) (p : Program) (s : State) (m : MethodId) (meth : Method) (c : Code) : Prop :=
  p.tables.exec = Jvm.exec ∧ c.code = M.2.1 ∧ c.maxLocals = M.2.2.1 ∧ meth.sig.returnType = M.2.2.2 ∧ meth.locks = false ∧ s.vm.findClass M.1.cls = some m.cls ∧ meth.name = M.1.name
def zLs (ls : Array Slot) (lv : List (Option Value)) : Prop := ls.size = lv.length ∧ lv_wf ls ∧ ∀ (i : Nat) (v : Value), lv[i]? = some (some v) → ls[i]? = some (.val v) ∧ v.category = 1
def zW (G : zG) (d : Nat) (M : zMd) (pc : Nat) (lv : List (Option Value)) (st : List Value) (H : Heap) (Q : Option Value → Heap → Prop) : Prop :=
  ∀ (p : Program) (e : Env) (s : State) (m : MethodId) (args : Array Value) (below : List Frame) (meth : Method) (c : Code) (locs : List Loc) (ls : Array Slot) (cells slots : Nat),
    zGo G → zEnv G s → zAt M p s m meth c → lv.length = M.2.2.1 → zLs ls lv → (∀ q ∈ locs, zFr G q.base) → zOk G s.heap → zOk G H →
    W p (zl G) e (zR G d s.heap) s m args below meth c H locs cells slots (MQ below (zQ G Q) args s (zCp G - s.heap.size) (zSp G - zT s.heap) (zFr G)) (F0 m pc ls st)
def zC (G : zG) (d : Nat) (M : zMd) (av : List Value) (H : Heap) (Q : Option Value → Heap → Prop) : Prop :=
  zOk G H → Met (zl G) M.1 [Cond.code M.1 M.2.1 M.2.2.1 M.2.2.2] (zR G d H) (va_Pc av (fun U => U.heap = H ∧ zEnv G U)) (zQ G Q) (zCp G - H.size) (zSp G - zT H) (zFr G)
theorem zsum_append (a b : List Nat) : (a ++ b).sum = a.sum + b.sum := by
  induction a with
  | nil => simp
  | cons x l ih => simp [Nat.add_assoc]
/-- the counters are what the heap shows -/
theorem zTight {p : Program} {l : Launch} {e : Env} {R : Room} {s : State} {m : MethodId} {args : Array Value} {below : List Frame} {meth : Method} {c : Code} {T : State} {locs : List Loc} {cells slots : Nat}
    (X : Stand p l e R s m args below meth c T locs cells slots) : s.heap.size ≤ T.heap.size ∧ zT s.heap ≤ zT T.heap ∧ Stand p l e R s m args below meth c T locs (T.heap.size - s.heap.size) (zT T.heap - zT s.heap) := by
  obtain ⟨h1, h2, h3, h4, h5, h6⟩ := X.same
  have h2' : s.heap.size ≤ T.heap.size := h2
  have h6' : ∀ a c, s.heap[a]? = some c → ∃ c', T.heap[a]? = some c' ∧ c' = { c with slots := c'.slots } ∧ c'.slots.size = c.slots.size ∧ ∀ i, (⟨a, i⟩ : Loc) ∉ locs → c'.slots[i]? = c.slots[i]? := h6
  have e1 : (T.heap.toList.take s.heap.size).map (fun c => c.slots.size) = s.heap.toList.map (fun c => c.slots.size) := by
    apply List.ext_getElem?
    intro i
    rw [List.getElem?_map, List.getElem?_map, List.getElem?_take]
    by_cases hi : i < s.heap.size
    · rw [if_pos hi]
      have hc : s.heap[i]? = some s.heap[i] := Array.getElem?_eq_getElem hi
      obtain ⟨c', g1, -, g3, -⟩ := h6' i _ hc
      rw [Array.getElem?_toList, Array.getElem?_toList, g1, hc]
      simp [g3]
    · rw [if_neg hi, Array.getElem?_toList, Array.getElem?_eq_none (by omega)]
  have e2 : zT T.heap = zT s.heap + ((T.heap.toList.drop s.heap.size).map (fun c => c.slots.size)).sum := by
    unfold zT
    rw [← e1, ← zsum_append, ← List.map_append, List.take_append_drop]
  refine ⟨h2', by omega, { X with same := ⟨h1, h2, ?_, h4, ?_, h6⟩ }⟩
  · show T.heap.size ≤ s.heap.size + (T.heap.size - s.heap.size)
    omega
  · show ((T.heap.toList.drop s.heap.size).map (fun c => c.slots.size)).sum ≤ zT T.heap - zT s.heap
    omega
section ZN
variable {p : Program} {l : Launch} {e : Env} {R : Room} {s : State} {m : MethodId} {args : Array Value} {below : List Frame} {meth : Method} {c : Code} {H : Heap} {locs : List Loc} {cells slots : Nat} {Q : State → Prop} {g : JFrame}
theorem zw_norm (k : s.heap.size ≤ H.size → zT s.heap ≤ zT H → W p l e R s m args below meth c H locs (H.size - s.heap.size) (zT H - zT s.heap) Q g) : W p l e R s m args below meth c H locs cells slots Q g := by
  intro T hT X
  obtain ⟨a, b, X'⟩ := zTight X
  subst hT
  exact k a b T rfl X'
end ZN
theorem zT_same {H H1 : Heap} (hz : H1.size = H.size) (h : ∀ q : Nat, q < H.size → ∃ c c' : Cell, H[q]? = some c ∧ H1[q]? = some c' ∧ c'.slots.size = c.slots.size) : zT H1 = zT H := by
  unfold zT
  congr 1
  apply List.ext_getElem?
  intro i
  rw [List.getElem?_map, List.getElem?_map, Array.getElem?_toList, Array.getElem?_toList]
  by_cases hi : i < H.size
  · obtain ⟨c, c', h1, h2, h3⟩ := h i hi
    rw [h1, h2]
    simp [h3]
  · rw [Array.getElem?_eq_none (by omega), Array.getElem?_eq_none (by omega)]
theorem zT_push (H : Heap) (c : Cell) : zT (H.push c) = zT H + c.slots.size := by
  unfold zT
  rw [Array.toList_push, List.map_append, zsum_append]
  simp
/-- one cell has changed, but not in its size -/
def zUp (a : Nat) (H H1 : Heap) : Prop := H1.size = H.size ∧ zT H1 = zT H ∧ ∀ q : Nat, q ≠ a → H1[q]? = H[q]?
theorem zUp_of {a : Nat} {H H1 : Heap} {c c' : Cell} (h0 : H[a]? = some c) (h1 : H1[a]? = some c') (hs : c'.slots.size = c.slots.size) (hz : H1.size = H.size) (hq : ∀ q : Nat, q ≠ a → H1[q]? = H[q]?) : zUp a H H1 := by
  refine ⟨hz, zT_same hz (fun q hl => ?_), hq⟩
  by_cases e : q = a
  · subst e
    exact ⟨c, c', h0, h1, hs⟩
  · exact ⟨H[q], H[q], Array.getElem?_eq_getElem hl, by rw [hq q e]; exact Array.getElem?_eq_getElem hl, rfl⟩
theorem zUp.ok {G : zG} {a : Nat} {H H1 : Heap} (h : zUp a H H1) (ha : zFr G a) (ho : zOk G H) : zOk G H1 := by
  obtain ⟨h1, h2, h3⟩ := h
  obtain ⟨o1, o2, o3, o4⟩ := ho
  exact ⟨by rw [h1]; exact o1, fun q hq => by rw [h3 q (fun e => by subst e; exact absurd hq (Nat.not_lt.mpr ha))]; exact o2 q hq, by rw [h1]; exact o3, by rw [h2]; exact o4⟩
/-- one cell more, of n slots, at the heap's end -/
def zNw (n : Nat) (H H1 : Heap) : Prop := H1.size = H.size + 1 ∧ zT H1 = zT H + n ∧ ∀ q : Nat, q < H.size → H1[q]? = H[q]?
theorem zNw_push (H : Heap) (c : Cell) : zNw c.slots.size H (H.push c) := ⟨by simp, zT_push H c, fun q hq => by rw [Array.getElem?_push, if_neg (Nat.ne_of_lt hq)]⟩
theorem zNw.ok {G : zG} {n : Nat} {H H1 : Heap} (h : zNw n H H1) (h1 : H.size + 1 ≤ zCp G) (h2 : zT H + n ≤ zSp G) (ho : zOk G H) : zOk G H1 := by
  obtain ⟨e1, e2, e3⟩ := h
  obtain ⟨o1, o2, o3, o4⟩ := ho
  exact ⟨by omega, fun q hq => by rw [e3 q (by omega)]; exact o2 q hq, by omega, by omega⟩
/-- a field of an object of class ci; an object; an array -/
def zFd (G : zG) (H : Heap) (a ci k : Nat) (v : Value) : Prop := ∃ cell : Cell, H[a]? = some cell ∧ cell.vm ≠ .unknown ∧ cell.slots[(zD G).2 ci k]? = some v
def zIs (G : zG) (H : Heap) (a ci : Nat) : Prop := ∃ cell : Cell, H[a]? = some cell ∧ cell.vm.isStatics = false ∧ cell.cls = (zD G).1 ci
def zObj (G : zG) (H : Heap) (a ci : Nat) (fs : List Value) : Prop := ∃ cell : Cell, H[a]? = some cell ∧ cell.cls = (zD G).1 ci ∧ cell.vm = .none ∧ ∀ k : Nat, k < fs.length → cell.slots[(zD G).2 ci k]? = fs[k]?
def zArr (G : zG) (H : Heap) (a : Nat) (ty : FieldType) (n : Nat) (f : Nat → Value) : Prop := ∃ cell : Cell, H[a]? = some cell ∧ (zS G).isArrayOf cell ty ∧ cell.vm ≠ .unknown ∧ cell.slots.size = n ∧ (∀ j : Nat, j < n → cell.slots[j]? = some (f j)) ∧ (zFr G a → va_RA (zS G) cell.cls ty)
theorem zObj.fd {G : zG} {H : Heap} {a ci k : Nat} {fs : List Value} {v : Value} (h : zObj G H a ci fs) (hk : fs[k]? = some v) : zFd G H a ci k v := by
  obtain ⟨cell, h1, h2, h3, h4⟩ := h
  exact ⟨cell, h1, (by rw [h3]; intro q; cases q), (by rw [h4 k (List.getElem?_eq_some_iff.mp hk).1]; exact hk)⟩
theorem zObj.is {G : zG} {H : Heap} {a ci : Nat} {fs : List Value} (h : zObj G H a ci fs) : zIs G H a ci := by
  obtain ⟨cell, h1, h2, h3, h4⟩ := h
  exact ⟨cell, h1, by rw [h3]; rfl, h2⟩
theorem zObj.lt {G : zG} {H : Heap} {a ci : Nat} {fs : List Value} (h : zObj G H a ci fs) : a < H.size := by
  obtain ⟨cell, h1, -⟩ := h
  exact (Array.getElem?_eq_some_iff.mp h1).1
theorem zIs.lt {G : zG} {H : Heap} {a ci : Nat} (h : zIs G H a ci) : a < H.size := by
  obtain ⟨cell, h1, -⟩ := h
  exact (Array.getElem?_eq_some_iff.mp h1).1
theorem zFd.lt {G : zG} {H : Heap} {a ci k : Nat} {v : Value} (h : zFd G H a ci k v) : a < H.size := by
  obtain ⟨cell, h1, -⟩ := h
  exact (Array.getElem?_eq_some_iff.mp h1).1
theorem zArr.lt {G : zG} {H : Heap} {a : Nat} {ty : FieldType} {n : Nat} {f : Nat → Value} (h : zArr G H a ty n f) : a < H.size := by
  obtain ⟨cell, h1, -⟩ := h
  exact (Array.getElem?_eq_some_iff.mp h1).1
theorem zObj.kept {G : zG} {H H1 : Heap} {a ci : Nat} {fs : List Value} (h : zObj G H a ci fs) (hq : H1[a]? = H[a]?) : zObj G H1 a ci fs := by
  obtain ⟨cell, h1, h2⟩ := h
  exact ⟨cell, hq.trans h1, h2⟩
theorem zIs.kept {G : zG} {H H1 : Heap} {a ci : Nat} (h : zIs G H a ci) (hq : H1[a]? = H[a]?) : zIs G H1 a ci := by
  obtain ⟨cell, h1, h2⟩ := h
  exact ⟨cell, hq.trans h1, h2⟩
theorem zFd.kept {G : zG} {H H1 : Heap} {a ci k : Nat} {v : Value} (h : zFd G H a ci k v) (hq : H1[a]? = H[a]?) : zFd G H1 a ci k v := by
  obtain ⟨cell, h1, h2⟩ := h
  exact ⟨cell, hq.trans h1, h2⟩
theorem zArr.kept {G : zG} {H H1 : Heap} {a : Nat} {ty : FieldType} {n : Nat} {f : Nat → Value} (h : zArr G H a ty n f) (hq : H1[a]? = H[a]?) : zArr G H1 a ty n f := by
  obtain ⟨cell, h1, h2⟩ := h
  exact ⟨cell, hq.trans h1, h2⟩
/-- words of the tables, at any state that we meet -/
theorem zWd {G : zG} {U : State} {a : Array Value} {w : Cond} (hG : zGo G) (hE : zEnv G U) (hw : w ∈ lw_tbl) (hg : (w.onTables && w.keeps) = true) : w.before a U = true := word_at hE (Or.inl hg) (hG.1 w hw)
theorem zK_at {G : zG} {U : State} (hG : zGo G) (hE : zEnv G U) : va_K (zD G) classes [] U := va_K.moved hE.alike hG.2
section ZP
variable {G : zG} {d : Nat} {M : zMd} {pc : Nat} {lv : List (Option Value)} {st : List Value} {H : Heap} {Q : Option Value → Heap → Prop}
/-- an instruction that only moves the frame: by a row of the kit -/
theorem zw_iconst {n : Int} (v : Int32) (hd : decode M.2.1 pc = .ok (.iconst n, 1)) (hv : Int32.ofInt n = v) (k : zW G d M (pc + 1) lv (.int v :: st) H Q) : zW G d M pc lv st H Q :=
  fun p e s m args below meth c locs ls cells slots g0 g1 A h1 h2 h3 h4 h5 => lv_iconst A.1 A.2.1 hd hv (k p e s m args below meth c locs ls cells slots g0 g1 A h1 h2 h3 h4 h5)
theorem zw_bipush {n : Int} (v : Int32) (hd : decode M.2.1 pc = .ok (.bipush n, 2)) (hv : (Int8.ofInt n).toInt32 = v) (k : zW G d M (pc + 2) lv (.int v :: st) H Q) : zW G d M pc lv st H Q :=
  fun p e s m args below meth c locs ls cells slots g0 g1 A h1 h2 h3 h4 h5 => lv_bipush A.1 A.2.1 hd hv (k p e s m args below meth c locs ls cells slots g0 g1 A h1 h2 h3 h4 h5)
theorem zw_sipush {n : Int} (v : Int32) (hd : decode M.2.1 pc = .ok (.sipush n, 3)) (hv : (Int16.ofInt n).toInt32 = v) (k : zW G d M (pc + 3) lv (.int v :: st) H Q) : zW G d M pc lv st H Q :=
  fun p e s m args below meth c locs ls cells slots g0 g1 A h1 h2 h3 h4 h5 => lv_sipush A.1 A.2.1 hd hv (k p e s m args below meth c locs ls cells slots g0 g1 A h1 h2 h3 h4 h5)
theorem zw_null (hd : decode M.2.1 pc = .ok (.aconst_null, 1)) (k : zW G d M (pc + 1) lv (.null :: st) H Q) : zW G d M pc lv st H Q :=
  fun p e s m args below meth c locs ls cells slots g0 g1 A h1 h2 h3 h4 h5 => lv_null A.1 A.2.1 hd (k p e s m args below meth c locs ls cells slots g0 g1 A h1 h2 h3 h4 h5)
theorem zw_iload_n {j : Fin 4} {i : Nat} {x : Int32} (hd : decode M.2.1 pc = .ok (.iload_n j, 1)) (hj : (j : Nat) = i) (hl : lv[i]? = some (some (.int x))) (k : zW G d M (pc + 1) lv (.int x :: st) H Q) : zW G d M pc lv st H Q :=
  fun p e s m args below meth c locs ls cells slots g0 g1 A h1 h2 h3 h4 h5 => lv_iload_n A.1 A.2.1 hd hj (h2.2.2 i _ hl).1 (k p e s m args below meth c locs ls cells slots g0 g1 A h1 h2 h3 h4 h5)
theorem zw_iload {i : Nat} {x : Int32} (hd : decode M.2.1 pc = .ok (.iload i, 2)) (hl : lv[i]? = some (some (.int x))) (k : zW G d M (pc + 2) lv (.int x :: st) H Q) : zW G d M pc lv st H Q :=
  fun p e s m args below meth c locs ls cells slots g0 g1 A h1 h2 h3 h4 h5 => lv_iload A.1 A.2.1 hd (h2.2.2 i _ hl).1 (k p e s m args below meth c locs ls cells slots g0 g1 A h1 h2 h3 h4 h5)
/-- a reference or null -/
def zRf (v : Value) : Prop := v = .null ∨ ∃ a : Nat, v = .ref a
theorem zRf_ref {a : Nat} : zRf (.ref a) := Or.inr ⟨a, rfl⟩
theorem zRf_null : zRf .null := Or.inl rfl
theorem zRf_rf (o : Option Nat) : zRf (va_rf o) := va_rf_or o
theorem zRf.cat {v : Value} (h : zRf v) : v.category = 1 := by
  rcases h with rfl | ⟨a, rfl⟩ <;> rfl
theorem zw_aload_n {j : Fin 4} {i : Nat} {v : Value} (hd : decode M.2.1 pc = .ok (.aload_n j, 1)) (hj : (j : Nat) = i) (hl : lv[i]? = some (some v)) (hv : zRf v) (k : zW G d M (pc + 1) lv (v :: st) H Q) : zW G d M pc lv st H Q := by
  intro p e s m args below meth c locs ls cells slots g0 g1 A h1 h2 h3 h4 h5
  rcases hv with rfl | ⟨a, rfl⟩
  · exact lv_aload_nN A.1 A.2.1 hd hj (h2.2.2 i _ hl).1 (k p e s m args below meth c locs ls cells slots g0 g1 A h1 h2 h3 h4 h5)
  · exact lv_aload_n A.1 A.2.1 hd hj (h2.2.2 i _ hl).1 (k p e s m args below meth c locs ls cells slots g0 g1 A h1 h2 h3 h4 h5)
theorem zw_aload {i : Nat} {v : Value} (hd : decode M.2.1 pc = .ok (.aload i, 2)) (hl : lv[i]? = some (some v)) (hv : zRf v) (k : zW G d M (pc + 2) lv (v :: st) H Q) : zW G d M pc lv st H Q := by
  intro p e s m args below meth c locs ls cells slots g0 g1 A h1 h2 h3 h4 h5
  rcases hv with rfl | ⟨a, rfl⟩
  · exact lv_aloadN A.1 A.2.1 hd (h2.2.2 i _ hl).1 (k p e s m args below meth c locs ls cells slots g0 g1 A h1 h2 h3 h4 h5)
  · exact lv_aload A.1 A.2.1 hd (h2.2.2 i _ hl).1 (k p e s m args below meth c locs ls cells slots g0 g1 A h1 h2 h3 h4 h5)
/-- the locals as the kit lists them -/
def zAs (lv : List (Option Value)) : List (Nat × Value) := (lv.zipIdx).filterMap (fun q => q.1.map (fun v => (q.2, v)))
theorem zAs_mem {lv : List (Option Value)} {i : Nat} {v : Value} : (i, v) ∈ zAs lv ↔ lv[i]? = some (some v) := by
  unfold zAs
  rw [List.mem_filterMap]
  constructor
  · rintro ⟨⟨o, j⟩, h1, h2⟩
    cases o with
    | none => cases h2
    | some w =>
      cases h2
      exact List.mk_mem_zipIdx_iff_getElem?.mp h1
  · intro h
    exact ⟨(some v, i), List.mk_mem_zipIdx_iff_getElem?.mpr h, rfl⟩
theorem zLs.has {ls : Array Slot} (h : zLs ls lv) : lv_has ls lv.length (zAs lv) := ⟨h.1, h.2.1, fun q hq => (h.2.2 q.1 q.2 (zAs_mem.mp hq)).1⟩
theorem zLs_set {ls ls' : Array Slot} {i : Nat} {v : Value} (h : zLs ls lv) (hv : v.category = 1) (h' : lv_has ls' lv.length ((i, v) :: (zAs lv).filter (fun q => !(q.1 == i) && !(q.1 + 1 == i && q.2.category == 2)))) : zLs ls' (lv.set i (some v)) := by
  refine ⟨by rw [List.length_set]; exact h'.1, h'.2.1, fun j w hj => ?_⟩
  rw [List.getElem?_set] at hj
  by_cases e : i = j
  · subst e
    rw [if_pos rfl] at hj
    split at hj
    · have e2 : v = w := Option.some.inj (Option.some.inj hj)
      subst e2
      exact ⟨h'.2.2 (i, v) List.mem_cons_self, hv⟩
    · cases hj
  · rw [if_neg e] at hj
    have hc := (h.2.2 j w hj).2
    refine ⟨h'.2.2 (j, w) (List.mem_cons_of_mem _ (List.mem_filter.mpr ⟨zAs_mem.mpr hj, ?_⟩)), hc⟩
    have e3 : ¬ j = i := fun q => e q.symm
    simp [e3, hc]
theorem zw_istore_n {j : Fin 4} {i : Nat} {x : Int32} (hd : decode M.2.1 pc = .ok (.istore_n j, 1)) (hj : (j : Nat) = i) (hi : i < lv.length) (k : zW G d M (pc + 1) (lv.set i (some (.int x))) st H Q) : zW G d M pc lv (.int x :: st) H Q :=
  fun p e s m args below meth c locs ls cells slots g0 g1 A h1 h2 h3 h4 h5 => lv_istore_n A.1 A.2.1 hd hj h2.has hi rfl (fun ls' h' => k p e s m args below meth c locs ls' cells slots g0 g1 A (by rw [List.length_set]; exact h1) (zLs_set h2 rfl h') h3 h4 h5)
theorem zw_istore {i : Nat} {x : Int32} (hd : decode M.2.1 pc = .ok (.istore i, 2)) (hi : i < lv.length) (k : zW G d M (pc + 2) (lv.set i (some (.int x))) st H Q) : zW G d M pc lv (.int x :: st) H Q :=
  fun p e s m args below meth c locs ls cells slots g0 g1 A h1 h2 h3 h4 h5 => lv_istore A.1 A.2.1 hd h2.has hi rfl (fun ls' h' => k p e s m args below meth c locs ls' cells slots g0 g1 A (by rw [List.length_set]; exact h1) (zLs_set h2 rfl h') h3 h4 h5)
theorem zw_astore_n {j : Fin 4} {i : Nat} {v : Value} (hd : decode M.2.1 pc = .ok (.astore_n j, 1)) (hj : (j : Nat) = i) (hi : i < lv.length) (hv : zRf v) (k : zW G d M (pc + 1) (lv.set i (some v)) st H Q) : zW G d M pc lv (v :: st) H Q := by
  intro p e s m args below meth c locs ls cells slots g0 g1 A h1 h2 h3 h4 h5
  rcases hv with rfl | ⟨a, rfl⟩
  · exact lv_astore_nN A.1 A.2.1 hd hj h2.has hi rfl (fun ls' h' => k p e s m args below meth c locs ls' cells slots g0 g1 A (by rw [List.length_set]; exact h1) (zLs_set h2 rfl h') h3 h4 h5)
  · exact lv_astore_n A.1 A.2.1 hd hj h2.has hi rfl (fun ls' h' => k p e s m args below meth c locs ls' cells slots g0 g1 A (by rw [List.length_set]; exact h1) (zLs_set h2 rfl h') h3 h4 h5)
theorem zw_astore {i : Nat} {v : Value} (hd : decode M.2.1 pc = .ok (.astore i, 2)) (hi : i < lv.length) (hv : zRf v) (k : zW G d M (pc + 2) (lv.set i (some v)) st H Q) : zW G d M pc lv (v :: st) H Q := by
  intro p e s m args below meth c locs ls cells slots g0 g1 A h1 h2 h3 h4 h5
  rcases hv with rfl | ⟨a, rfl⟩
  · exact lv_astoreN A.1 A.2.1 hd h2.has hi rfl (fun ls' h' => k p e s m args below meth c locs ls' cells slots g0 g1 A (by rw [List.length_set]; exact h1) (zLs_set h2 rfl h') h3 h4 h5)
  · exact lv_astore A.1 A.2.1 hd h2.has hi rfl (fun ls' h' => k p e s m args below meth c locs ls' cells slots g0 g1 A (by rw [List.length_set]; exact h1) (zLs_set h2 rfl h') h3 h4 h5)
theorem zw_iinc {i : Nat} {n : Int} {x : Int32} (v : Int32) (hd : decode M.2.1 pc = .ok (.iinc i n, 3)) (hl : lv[i]? = some (some (.int x))) (hv : x + Int32.ofInt n = v) (k : zW G d M (pc + 3) (lv.set i (some (.int v))) st H Q) : zW G d M pc lv st H Q := by
  intro p e s m args below meth c locs ls cells slots g0 g1 A h1 h2 h3 h4 h5
  obtain ⟨j, hj⟩ := List.getElem?_of_mem (zAs_mem.mpr hl)
  exact lv_iinc A.1 A.2.1 hd h2.has (k := j) hj hv (List.getElem?_eq_some_iff.mp hl).1 rfl (fun ls' h' => k p e s m args below meth c locs ls' cells slots g0 g1 A (by rw [List.length_set]; exact h1) (zLs_set h2 rfl h') h3 h4 h5)
theorem zw_iadd {x y : Int32} (hd : decode M.2.1 pc = .ok (.iadd, 1)) (k : zW G d M (pc + 1) lv (.int (x + y) :: st) H Q) : zW G d M pc lv (.int y :: .int x :: st) H Q :=
  fun p e s m args below meth c locs ls cells slots g0 g1 A h1 h2 h3 h4 h5 => lv_iadd A.1 A.2.1 hd (k p e s m args below meth c locs ls cells slots g0 g1 A h1 h2 h3 h4 h5)
theorem zw_isub {x y : Int32} (hd : decode M.2.1 pc = .ok (.isub, 1)) (k : zW G d M (pc + 1) lv (.int (x - y) :: st) H Q) : zW G d M pc lv (.int y :: .int x :: st) H Q :=
  fun p e s m args below meth c locs ls cells slots g0 g1 A h1 h2 h3 h4 h5 => lv_isub A.1 A.2.1 hd (k p e s m args below meth c locs ls cells slots g0 g1 A h1 h2 h3 h4 h5)
theorem zw_imul {x y : Int32} (hd : decode M.2.1 pc = .ok (.imul, 1)) (k : zW G d M (pc + 1) lv (.int (x * y) :: st) H Q) : zW G d M pc lv (.int y :: .int x :: st) H Q :=
  fun p e s m args below meth c locs ls cells slots g0 g1 A h1 h2 h3 h4 h5 => lv_imul A.1 A.2.1 hd (k p e s m args below meth c locs ls cells slots g0 g1 A h1 h2 h3 h4 h5)
theorem zw_iand {x y : Int32} (hd : decode M.2.1 pc = .ok (.iand, 1)) (k : zW G d M (pc + 1) lv (.int (x &&& y) :: st) H Q) : zW G d M pc lv (.int y :: .int x :: st) H Q :=
  fun p e s m args below meth c locs ls cells slots g0 g1 A h1 h2 h3 h4 h5 => lv_iand A.1 A.2.1 hd (k p e s m args below meth c locs ls cells slots g0 g1 A h1 h2 h3 h4 h5)
theorem zw_ior {x y : Int32} (hd : decode M.2.1 pc = .ok (.ior, 1)) (k : zW G d M (pc + 1) lv (.int (x ||| y) :: st) H Q) : zW G d M pc lv (.int y :: .int x :: st) H Q :=
  fun p e s m args below meth c locs ls cells slots g0 g1 A h1 h2 h3 h4 h5 => lv_ior A.1 A.2.1 hd (k p e s m args below meth c locs ls cells slots g0 g1 A h1 h2 h3 h4 h5)
theorem zw_ixor {x y : Int32} (hd : decode M.2.1 pc = .ok (.ixor, 1)) (k : zW G d M (pc + 1) lv (.int (x ^^^ y) :: st) H Q) : zW G d M pc lv (.int y :: .int x :: st) H Q :=
  fun p e s m args below meth c locs ls cells slots g0 g1 A h1 h2 h3 h4 h5 => lv_ixor A.1 A.2.1 hd (k p e s m args below meth c locs ls cells slots g0 g1 A h1 h2 h3 h4 h5)
theorem zw_ineg {x : Int32} (hd : decode M.2.1 pc = .ok (.ineg, 1)) (k : zW G d M (pc + 1) lv (.int (-x) :: st) H Q) : zW G d M pc lv (.int x :: st) H Q :=
  fun p e s m args below meth c locs ls cells slots g0 g1 A h1 h2 h3 h4 h5 => lv_ineg A.1 A.2.1 hd (k p e s m args below meth c locs ls cells slots g0 g1 A h1 h2 h3 h4 h5)
theorem zw_ishl {x y : Int32} (hd : decode M.2.1 pc = .ok (.ishl, 1)) (k : zW G d M (pc + 1) lv (.int (x <<< (y &&& 31)) :: st) H Q) : zW G d M pc lv (.int y :: .int x :: st) H Q :=
  fun p e s m args below meth c locs ls cells slots g0 g1 A h1 h2 h3 h4 h5 => lv_ishl A.1 A.2.1 hd (k p e s m args below meth c locs ls cells slots g0 g1 A h1 h2 h3 h4 h5)
theorem zw_ishr {x y : Int32} (hd : decode M.2.1 pc = .ok (.ishr, 1)) (k : zW G d M (pc + 1) lv (.int (x >>> (y &&& 31)) :: st) H Q) : zW G d M pc lv (.int y :: .int x :: st) H Q :=
  fun p e s m args below meth c locs ls cells slots g0 g1 A h1 h2 h3 h4 h5 => lv_ishr A.1 A.2.1 hd (k p e s m args below meth c locs ls cells slots g0 g1 A h1 h2 h3 h4 h5)
theorem zw_iushr {x y : Int32} (hd : decode M.2.1 pc = .ok (.iushr, 1)) (k : zW G d M (pc + 1) lv (.int (x.toUInt32 >>> (y.toUInt32 &&& Int32.toUInt32 31)).toInt32 :: st) H Q) : zW G d M pc lv (.int y :: .int x :: st) H Q :=
  fun p e s m args below meth c locs ls cells slots g0 g1 A h1 h2 h3 h4 h5 => lv_iushr A.1 A.2.1 hd rfl (k p e s m args below meth c locs ls cells slots g0 g1 A h1 h2 h3 h4 h5)
theorem zw_i2b {x : Int32} (hd : decode M.2.1 pc = .ok (.i2b, 1)) (k : zW G d M (pc + 1) lv (.int x.toInt8.toInt32 :: st) H Q) : zW G d M pc lv (.int x :: st) H Q :=
  fun p e s m args below meth c locs ls cells slots g0 g1 A h1 h2 h3 h4 h5 => lv_i2b A.1 A.2.1 hd rfl (k p e s m args below meth c locs ls cells slots g0 g1 A h1 h2 h3 h4 h5)
theorem zw_i2c {x : Int32} (hd : decode M.2.1 pc = .ok (.i2c, 1)) (k : zW G d M (pc + 1) lv (.int (x.toUInt32 % 65536).toInt32 :: st) H Q) : zW G d M pc lv (.int x :: st) H Q :=
  fun p e s m args below meth c locs ls cells slots g0 g1 A h1 h2 h3 h4 h5 => lv_i2c A.1 A.2.1 hd rfl (k p e s m args below meth c locs ls cells slots g0 g1 A h1 h2 h3 h4 h5)
theorem zw_dup {v : Value} (hd : decode M.2.1 pc = .ok (.dup, 1)) (hv : v.category = 1) (k : zW G d M (pc + 1) lv (v :: v :: st) H Q) : zW G d M pc lv (v :: st) H Q :=
  fun p e s m args below meth c locs ls cells slots g0 g1 A h1 h2 h3 h4 h5 => lv_dup A.1 A.2.1 hd hv (k p e s m args below meth c locs ls cells slots g0 g1 A h1 h2 h3 h4 h5)
theorem zw_pop {v : Value} (hd : decode M.2.1 pc = .ok (.pop, 1)) (hv : v.category = 1) (k : zW G d M (pc + 1) lv st H Q) : zW G d M pc lv (v :: st) H Q :=
  fun p e s m args below meth c locs ls cells slots g0 g1 A h1 h2 h3 h4 h5 => lv_pop A.1 A.2.1 hd hv (k p e s m args below meth c locs ls cells slots g0 g1 A h1 h2 h3 h4 h5)
theorem zw_dup_x1 {v w : Value} (hd : decode M.2.1 pc = .ok (.dup_x1, 1)) (hv : v.category = 1) (hw : w.category = 1) (k : zW G d M (pc + 1) lv (v :: w :: v :: st) H Q) : zW G d M pc lv (v :: w :: st) H Q :=
  fun p e s m args below meth c locs ls cells slots g0 g1 A h1 h2 h3 h4 h5 => lv_dup_x1 A.1 A.2.1 hd hv hw (k p e s m args below meth c locs ls cells slots g0 g1 A h1 h2 h3 h4 h5)
theorem zw_dup_x2 {v w u : Value} (hd : decode M.2.1 pc = .ok (.dup_x2, 1)) (hv : v.category = 1) (hw : w.category = 1) (hu : u.category = 1) (k : zW G d M (pc + 1) lv (v :: w :: u :: v :: st) H Q) : zW G d M pc lv (v :: w :: u :: st) H Q :=
  fun p e s m args below meth c locs ls cells slots g0 g1 A h1 h2 h3 h4 h5 => lv_dup_x2 A.1 A.2.1 hd hv hw hu (k p e s m args below meth c locs ls cells slots g0 g1 A h1 h2 h3 h4 h5)
theorem zw_dup2 {v w : Value} (hd : decode M.2.1 pc = .ok (.dup2, 1)) (hv : v.category = 1) (hw : w.category = 1) (k : zW G d M (pc + 1) lv (v :: w :: v :: w :: st) H Q) : zW G d M pc lv (v :: w :: st) H Q :=
  fun p e s m args below meth c locs ls cells slots g0 g1 A h1 h2 h3 h4 h5 => lv_dup2_11 A.1 A.2.1 hd hv hw (k p e s m args below meth c locs ls cells slots g0 g1 A h1 h2 h3 h4 h5)
theorem zw_goto {off : Int} (t : Nat) (hd : decode M.2.1 pc = .ok (.goto off, 3)) (ht : (pc : Int) + off = (t : Int)) (k : zW G d M t lv st H Q) : zW G d M pc lv st H Q :=
  fun p e s m args below meth c locs ls cells slots g0 g1 A h1 h2 h3 h4 h5 => lv_goto A.1 A.2.1 hd ht (k p e s m args below meth c locs ls cells slots g0 g1 A h1 h2 h3 h4 h5)
end ZP
