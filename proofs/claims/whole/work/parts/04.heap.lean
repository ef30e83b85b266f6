theorem zLay_good {C : String} {T : u_T} {N : Nat} {w : Cond} (h : w ∈ u_ws C T N) : (w.onTables && w.keeps) = true := by
  unfold u_ws at h
  obtain ⟨k, -, rfl⟩ := List.mem_map.mp h
  unfold u_lay
  split <;> rfl
/-- a Fieldref of the pool: field k of class ci -/
def zFl (own : String) (idx ci k : Nat) : Prop := ∃ (C : String) (T : u_T) (N : Nat) (ref : String), classes[ci]? = some (C, T, N) ∧ k < N ∧ (∀ w ∈ u_ws C T N, w ∈ lw_tbl) ∧ (Cond.fieldLink own idx ref (T k).2.1 (T k).2.2.1 ∈ lw_tbl ∨ ∃ host : String, Cond.fieldLinkNest own idx ref (T k).2.1 (T k).2.2.1 host ∈ lw_tbl) ∧ (ref = (T k).1 ∨ Cond.sameField ref (T k).1 (T k).2.1 (T k).2.2.1 ∈ lw_tbl)
/-- ... which may be written by the method, a value of the type ty -/
def zPf (M : zMd) (idx ci k : Nat) (ty : FieldType) : Prop := zFl M.1.cls idx ci k ∧ ∃ (C : String) (T : u_T) (N : Nat) (ty0 : Nat → FieldType), classes[ci]? = some (C, T, N) ∧ (∀ j, j < N → parseFieldDescriptor (T j).2.2.1 = some (ty0 j)) ∧ (∀ a, a < N → ∀ b, b < N → a ≠ b → (T a).2.1 ≠ (T b).2.1) ∧ ty0 k = ty ∧ ((T k).2.2.2 = false ∨ ((T k).2.2.2 = true ∧ M.1.name = "<init>" ∧ (T k).1 = M.1.cls))
def zN (ci : Nat) : Nat := match classes[ci]? with
  | some q => q.2.2
  | none => 0
/-- a class entry of the pool, of a class whose objects have n slots and begin with the fields fs -/
def zNf (M : zMd) (idx ci n : Nat) (fs : List Value) : Prop := ∃ (C : String) (T : u_T) (N : Nat) (ty0 : Nat → FieldType), classes[ci]? = some (C, T, N) ∧ (∀ w ∈ u_ws C T N, w ∈ lw_tbl) ∧ (∀ j, j < N → parseFieldDescriptor (T j).2.2.1 = some (ty0 j)) ∧ Cond.classLink M.1.cls idx C ∈ lw_tbl ∧ Cond.instantiable C n ∈ lw_tbl ∧ Cond.initialized C ∈ lw_tbl ∧ fs.length ≤ N ∧ ∀ j, j < fs.length → fs[j]? = some (defaultValue (ty0 j))
section ZH
variable {G : zG} {d : Nat} {M : zMd} {pc : Nat} {lv : List (Option Value)} {st : List Value} {H : Heap} {Q : Option Value → Heap → Prop}
theorem zw_getf {idx ci k a : Nat} {v : Value} (hd : decode M.2.1 pc = .ok (.getfield idx, 3)) (hF : zFl M.1.cls idx ci k) (hf : zFd G H a ci k v) (kk : zW G d M (pc + 3) lv (v :: st) H Q) : zW G d M pc lv (.ref a :: st) H Q := by
  intro p e s m args below meth c locs ls cells slots g0 g1 A h1 h2 h3 h4 h5
  obtain ⟨C, T, N, ref, hc, hk, hin, hlk, hsm⟩ := hF
  obtain ⟨cell, q1, q2, q3⟩ := hf
  have hts : ∀ w ∈ u_ws C T N, w.before args s = true := fun w hw => zWd g0 g1 (hin w hw) (zLay_good hw)
  obtain ⟨hS, hfc, kC, hkC, hkind⟩ := (zK_at g0 g1).1 ci _ hc
  obtain ⟨cf, kf, fi, f, hi, hsl⟩ := hS k hk
  have hi' : s.fieldFound? ref (T k).2.1 (T k).2.2.1 = some (cf, kf, fi, f) := by
    rcases hsm with rfl | h
    · exact hi
    · exact u_same (args := args) (zWd g0 g1 h rfl) _ hi
  have hst := (u_facts hfc hkC (u_lays hts (fun w h => h) hk) hi).1
  rcases hlk with hlk | ⟨host, hlk⟩
  · exact W.getf A.1 A.2.1 A.2.2.2.2.2.1 (zWd g0 g1 hlk rfl) hi' hst q1 q2 (by rw [hsl]; exact q3) rfl rfl hd (kk p e s m args below meth c locs ls cells slots g0 g1 A h1 h2 h3 h4 h5)
  · exact va_Wgetf A.1 A.2.1 A.2.2.2.2.2.1 (va_Nw.use rfl (va_Nw.warmF g1 (va_Nw.of rfl (g0.1 _ hlk)))) hi' hst q1 q2 (by rw [hsl]; exact q3) rfl rfl hd (kk p e s m args below meth c locs ls cells slots g0 g1 A h1 h2 h3 h4 h5)
theorem zObj_put {cell cell' : Cell} {H1 : Heap} {a ci k : Nat} {fs : List Value} {v : Value} (hap : ∀ x y, x < zN ci → y < zN ci → x ≠ y → (zD G).2 ci x ≠ (zD G).2 ci y) (hl : fs.length ≤ zN ci) (hk : k < fs.length) (q2 : cell.cls = (zD G).1 ci) (q3 : cell.vm = .none) (q4 : ∀ j : Nat, j < fs.length → cell.slots[(zD G).2 ci j]? = fs[j]?) (e1 : H1[a]? = some cell') (e2 : cell' = cell.setSlot ((zD G).2 ci k) v) : zObj G H1 a ci (fs.set k v) := by
  subst e2
  refine ⟨_, e1, q2, q3, fun j hj => ?_⟩
  rw [List.length_set] at hj
  have hsz : (zD G).2 ci k < cell.slots.size := by
    have := q4 k hk
    rw [List.getElem?_eq_getElem hk] at this
    exact (Array.getElem?_eq_some_iff.mp this).1
  by_cases e : j = k
  · subst e
    rw [List.getElem?_set_self hk]
    exact Cell.slots_setSlot_self v hsz
  · rw [slot_ne _ _ (hap k j (by omega) (by omega) (fun q => e q.symm)), List.getElem?_set_ne (fun q => e q.symm)]
    exact q4 j hj
theorem zw_putf {idx ci k a : Nat} {v : Value} {ty : FieldType} {fs : List Value} (hd : decode M.2.1 pc = .ok (.putfield idx, 3)) (hF : zPf M idx ci k ty) (ho : zObj G H a ci fs) (hl : fs.length ≤ zN ci) (hk : k < fs.length) (ha : zFr G a) (hn : narrow ty v = v) (hfit : fits ty v = true) (kk : ∀ H1 : Heap, zObj G H1 a ci (fs.set k v) → zUp a H H1 → zW G d M (pc + 3) lv st H1 Q) : zW G d M pc lv (v :: .ref a :: st) H Q := by
  intro p e s m args below meth c locs ls cells slots g0 g1 A h1 h2 h3 h4 h5
  obtain ⟨⟨C, T, N, ref, hc, hkN, hin, hlk, hsm⟩, C2, T2, N2, ty0, hc2, hty, hnm, hyk, hfin⟩ := hF
  have hcc := hc.symm.trans hc2
  cases hcc
  obtain ⟨cell, q1, q2, q3, q4⟩ := ho
  have hzN : zN ci = N := by unfold zN; rw [hc]
  have hts : ∀ w ∈ u_ws C T N, w.before args s = true := fun w hw => zWd g0 g1 (hin w hw) (zLay_good hw)
  have hK := zK_at g0 g1
  have hap := va_apart (own := C) hts (fun w h => h) ty0 hty hnm hK hc
  obtain ⟨hS, hfc, kC, hkC, hkind⟩ := hK.1 ci _ hc
  obtain ⟨cf, kf, fi, f, hi, hsl⟩ := hS k hkN
  have hi' : s.fieldFound? ref (T k).2.1 (T k).2.2.1 = some (cf, kf, fi, f) := by
    rcases hsm with rfl | h
    · exact hi
    · exact u_same (args := args) (zWd g0 g1 h rfl) _ hi
  have hst := (u_facts hfc hkC (u_lays hts (fun w h => h) hkN) hi).1
  have hdty : parseFieldDescriptor (T k).2.2.1 = some ty := by rw [hty k hkN, hyk]
  have hfits := u_fits hfc hkC hkind (u_lays hts (fun w h => h) hkN) hi hdty hn hfit
  have hslot : f.slot < cell.slots.size := by
    have := q4 k hk
    rw [List.getElem?_eq_getElem hk] at this
    rw [hsl]
    exact (Array.getElem?_eq_some_iff.mp this).1
  have go : ∀ H' : Heap, H'[a]? = some (cell.setSlot f.slot v) → H'.size = H.size → (∀ q, q ≠ a → H'[q]? = H[q]?) → W p (zl G) e (zR G d s.heap) s m args below meth c H' (locs ++ [⟨a, f.slot⟩]) cells slots (MQ below (zQ G Q) args s (zCp G - s.heap.size) (zSp G - zT s.heap) (zFr G)) (F0 m (pc + 3) ls st) := by
    intro H' e1 e2 e3
    have hu : zUp a H H' := zUp_of q1 e1 (by simp [Cell.setSlot]) e2 e3
    refine kk H' (zObj_put (G := G) (by rw [hzN]; exact hap) hl hk q2 q3 q4 e1 (by rw [hsl])) hu p e s m args below meth c _ ls cells slots g0 g1 A h1 h2 (fun q hq => ?_) h4 (hu.ok ha h5)
    rcases List.mem_append.mp hq with h | h
    · exact h3 q h
    · rw [List.mem_singleton.mp h]
      exact ha
  rcases hfin with hfin | ⟨hfin, hinit, hdecl⟩
  · have hlay := hts _ (u_in_lay (C := C) (T := T) hkN)
    unfold u_lay at hlay
    rw [if_neg (by rw [hfin]; decide)] at hlay
    have h6 := u_store hfc hkC hkind hlay hi hdty hn hfit
    rcases hlk with hlk | ⟨host, hlk⟩
    · exact W.putK A.1 A.2.1 (f := f) ⟨A.2.2.2.2.2.1, zWd g0 g1 hlk rfl, ⟨_, _, _, hi'⟩, hst⟩ (by rw [q2]; exact h6) q1 q3 hslot rfl rfl hd go
    · exact va_WputK A.1 A.2.1 A.2.2.2.2.2.1 (va_Nw.use rfl (va_Nw.warmF g1 (va_Nw.of rfl (g0.1 _ hlk)))) hi' hst (by rw [q2]; exact h6) q1 q3 hslot rfl rfl hd go
  · have hlay := hts _ (u_in_lay (C := C) (T := T) hkN)
    unfold u_lay at hlay
    rw [if_pos hfin] at hlay
    have hcf : m.cls = cf := by
      obtain ⟨_, _, c', _, _, _, -, -, hf', -, -, -, hown2, -⟩ := Cond.laysFinal_spec hlay
      have e1 : c' = cf := by have := hi.symm.trans hf'; simp at this; exact this.1.symm
      rw [hdecl] at hown2
      rw [← e1]; exact Option.some.inj (A.2.2.2.2.2.1.symm.trans hown2)
    rcases hlk with hlk | ⟨host, hlk⟩
    · exact W.putFinK A.1 A.2.1 A.2.2.2.2.2.1 (zWd g0 g1 hlk rfl) hi' hst hcf (A.2.2.2.2.2.2.trans hinit) (by rw [q2]; exact hfits) q1 q3 hslot rfl rfl hd go
    · refine va_Wputf A.1 A.2.1 A.2.2.2.2.2.1 (va_Nw.use rfl (va_Nw.warmF g1 (va_Nw.of rfl (g0.1 _ hlk)))) hi' hst (Or.inr ⟨hcf, A.2.2.2.2.2.2.trans hinit⟩) q1 (by rw [q3]; intro h; cases h) hslot hfits.1 (by rw [q2, q3]; exact hfits.2) rfl rfl hd ?_
      have hlt : a < H.size := (Array.getElem?_eq_some_iff.mp q1).1
      exact go _ (by simp [Array.getElem?_setIfInBounds, hlt]) (by simp) (fun q hq => by simp [Array.getElem?_setIfInBounds, Ne.symm hq])
theorem zw_new {idx ci n : Nat} {fs : List Value} (hd : decode M.2.1 pc = .ok (.new idx, 3)) (hN : zNf M idx ci n fs) (hc1 : H.size + 1 ≤ zCp G) (hs1 : zT H + n ≤ zSp G) (kk : ∀ H1 : Heap, zObj G H1 H.size ci fs → zNw n H H1 → zW G d M (pc + 3) lv (.ref H.size :: st) H1 Q) : zW G d M pc lv st H Q := by
  intro p e s m args below meth c locs ls cells slots g0 g1 A h1 h2 h3 h4 h5
  obtain ⟨C, T, N, ty0, hc, hin, hty, hcl, hins, hini, hl, hfs⟩ := hN
  have hts : ∀ w ∈ u_ws C T N, w.before args s = true := fun w hw => zWd g0 g1 (hin w hw) (zLay_good hw)
  have hKn := (zK_at g0 g1).1 ci _ hc
  refine zw_norm fun b1 b2 => ?_
  have hsl := h5.2.2
  refine W.newc A.1 A.2.1 A.2.2.2.2.2.1 (zWd g0 g1 hcl rfl) (zWd g0 g1 hins rfl) (zWd g0 g1 hini rfl) rfl hd (by show _ ≤ zCp G - s.heap.size; omega) (by show _ ≤ zSp G - zT s.heap; omega) fun cC kC f1 f2 f3 f4 => ?_
  have hcC : (zD G).1 ci = cC := Option.some.inj (hKn.2.1.symm.trans f1)
  have e0 : ({ cls := cC, slots := kC.instanceTypes.map defaultValue, vm := .none } : Cell) = blank cC kC := rfl
  rw [e0]
  have hnw : zNw n H (H.push (blank cC kC)) := by
    have := zNw_push H (blank cC kC)
    rw [show (blank cC kC).slots.size = n by simp [blank, f4]] at this
    exact this
  have hb : (H.push (blank cC kC))[H.size]? = some (blank cC kC) := by simp
  subst hcC
  obtain ⟨cell, r1, r2, r3, r4⟩ := u_born (o := H.size) ty0 hts (fun w h => h) hKn f2 hb hty
  refine kk _ ⟨cell, r1, r2, r3, fun j hj => ?_⟩ hnw p e s m args below meth c locs ls _ _ g0 g1 A h1 h2 h3 h4 (hnw.ok hc1 hs1 h5)
  rw [r4 j (by omega), hfs j hj]
theorem zw_alen {a n : Nat} {ty : FieldType} {f : Nat → Value} (hd : decode M.2.1 pc = .ok (.arraylength, 1)) (hA : zArr G H a ty n f) (kk : zW G d M (pc + 1) lv (.int (nI n) :: st) H Q) : zW G d M pc lv (.ref a :: st) H Q := by
  intro p e s m args below meth c locs ls cells slots g0 g1 A h1 h2 h3 h4 h5
  obtain ⟨cell, q1, q2, q3, q4, q5, q6⟩ := hA
  exact W.alen (n := nI n) A.1 A.2.1 q1 (State.isArrayOf_alike g1.alike q2) (by rw [q4]; rfl) rfl rfl hd (kk p e s m args below meth c locs ls cells slots g0 g1 A h1 h2 h3 h4 h5)
theorem zw_iald {a n : Nat} {f : Nat → Value} {i : Int32} (hd : decode M.2.1 pc = .ok (.iaload, 1)) (hA : zArr G H a .int n f) (hi : vp_in i n) (kk : zW G d M (pc + 1) lv (f i.toNatClampNeg :: st) H Q) : zW G d M pc lv (.int i :: .ref a :: st) H Q := by
  intro p e s m args below meth c locs ls cells slots g0 g1 A h1 h2 h3 h4 h5
  obtain ⟨cell, q1, q2, q3, q4, q5, q6⟩ := hA
  have hlt : i.toNatClampNeg < n := Nat.not_le.mp fun q => hi (Or.inr q)
  exact W.iald A.1 A.2.1 q1 (State.isArrayOf_alike g1.alike q2) q3 (by rw [q4]; exact hi) (q5 _ hlt) rfl rfl hd (kk p e s m args below meth c locs ls cells slots g0 g1 A h1 h2 h3 h4 h5)
theorem zw_bald {a n : Nat} {f : Nat → Value} {i : Int32} (hd : decode M.2.1 pc = .ok (.baload, 1)) (hA : zArr G H a .byte n f) (hi : vp_in i n) (kk : zW G d M (pc + 1) lv (f i.toNatClampNeg :: st) H Q) : zW G d M pc lv (.int i :: .ref a :: st) H Q := by
  intro p e s m args below meth c locs ls cells slots g0 g1 A h1 h2 h3 h4 h5
  obtain ⟨cell, q1, q2, q3, q4, q5, q6⟩ := hA
  have hlt : i.toNatClampNeg < n := Nat.not_le.mp fun q => hi (Or.inr q)
  exact W.bald A.1 A.2.1 q1 (State.isArrayOf_alike g1.alike q2) q3 (by rw [q4]; exact hi) (q5 _ hlt) rfl rfl hd (kk p e s m args below meth c locs ls cells slots g0 g1 A h1 h2 h3 h4 h5)
theorem zw_zald {a n : Nat} {f : Nat → Value} {i : Int32} (hd : decode M.2.1 pc = .ok (.baload, 1)) (hA : zArr G H a .boolean n f) (hi : vp_in i n) (kk : zW G d M (pc + 1) lv (f i.toNatClampNeg :: st) H Q) : zW G d M pc lv (.int i :: .ref a :: st) H Q := by
  intro p e s m args below meth c locs ls cells slots g0 g1 A h1 h2 h3 h4 h5
  obtain ⟨cell, q1, q2, q3, q4, q5, q6⟩ := hA
  have hlt : i.toNatClampNeg < n := Nat.not_le.mp fun q => hi (Or.inr q)
  exact W.zald A.1 A.2.1 q1 (State.isArrayOf_alike g1.alike q2) q3 (by rw [q4]; exact hi) (q5 _ hlt) rfl rfl hd (kk p e s m args below meth c locs ls cells slots g0 g1 A h1 h2 h3 h4 h5)
theorem zw_aald {a n : Nat} {ty : FieldType} {f : Nat → Value} {i : Int32} (hd : decode M.2.1 pc = .ok (.aaload, 1)) (hr : ty.isReference = true) (hA : zArr G H a ty n f) (hi : vp_in i n) (kk : zW G d M (pc + 1) lv (f i.toNatClampNeg :: st) H Q) : zW G d M pc lv (.int i :: .ref a :: st) H Q := by
  intro p e s m args below meth c locs ls cells slots g0 g1 A h1 h2 h3 h4 h5
  obtain ⟨cell, q1, q2, q3, q4, q5, q6⟩ := hA
  have hlt : i.toNatClampNeg < n := Nat.not_le.mp fun q => hi (Or.inr q)
  exact W.aald A.1 A.2.1 q1 (State.isArrayOf_alike g1.alike q2) hr q3 (by rw [q4]; exact hi) (q5 _ hlt) rfl rfl hd (kk p e s m args below meth c locs ls cells slots g0 g1 A h1 h2 h3 h4 h5)
theorem zArr_set {a n i : Nat} {ty : FieldType} {f : Nat → Value} {H1 : Heap} {cell : Cell} {v : Value} (q2 : (zS G).isArrayOf cell ty) (q3 : cell.vm ≠ .unknown) (q4 : cell.slots.size = n) (q5 : ∀ j : Nat, j < n → cell.slots[j]? = some (f j)) (q6 : zFr G a → va_RA (zS G) cell.cls ty) (e1 : H1[a]? = some (cell.setSlot i v)) : zArr G H1 a ty n (updV f i v) := by
  refine ⟨_, e1, q2, q3, by simp [Cell.setSlot, q4], fun j hj => ?_, q6⟩
  by_cases e : j = i
  · subst e
    rw [show updV f j v j = v by simp [updV]]
    exact Cell.slots_setSlot_self v (by omega)
  · rw [slot_ne _ _ (fun q => e q.symm), q5 j hj]
    simp [updV, e]
theorem zw_iast {a n : Nat} {f : Nat → Value} {i x : Int32} (hd : decode M.2.1 pc = .ok (.iastore, 1)) (hA : zArr G H a .int n f) (hi : vp_in i n) (ha : zFr G a) (kk : ∀ H1 : Heap, zArr G H1 a .int n (updV f i.toNatClampNeg (.int x)) → zUp a H H1 → zW G d M (pc + 1) lv st H1 Q) : zW G d M pc lv (.int x :: .int i :: .ref a :: st) H Q := by
  intro p e s m args below meth c locs ls cells slots g0 g1 A h1 h2 h3 h4 h5
  obtain ⟨cell, q1, q2, q3, q4, q5, q6⟩ := hA
  refine W.iast A.1 A.2.1 q1 (State.isArrayOf_alike g1.alike q2) q3 (by rw [q4]; exact hi) rfl rfl hd fun H' e1 e2 e3 => ?_
  have hu : zUp a H H' := zUp_of q1 e1 (by simp [Cell.setSlot]) e2 e3
  refine kk H' (zArr_set q2 q3 q4 q5 q6 e1) hu p e s m args below meth c _ ls cells slots g0 g1 A h1 h2 (fun q hq => ?_) h4 (hu.ok ha h5)
  rcases List.mem_append.mp hq with h | h
  · exact h3 q h
  · rw [List.mem_singleton.mp h]
    exact ha
theorem zw_bast {a n : Nat} {f : Nat → Value} {i x : Int32} (hd : decode M.2.1 pc = .ok (.bastore, 1)) (hA : zArr G H a .byte n f) (hi : vp_in i n) (ha : zFr G a) (kk : ∀ H1 : Heap, zArr G H1 a .byte n (updV f i.toNatClampNeg (.int x.toInt8.toInt32)) → zUp a H H1 → zW G d M (pc + 1) lv st H1 Q) : zW G d M pc lv (.int x :: .int i :: .ref a :: st) H Q := by
  intro p e s m args below meth c locs ls cells slots g0 g1 A h1 h2 h3 h4 h5
  obtain ⟨cell, q1, q2, q3, q4, q5, q6⟩ := hA
  refine W.bast A.1 A.2.1 q1 (State.isArrayOf_alike g1.alike q2) q3 (by rw [q4]; exact hi) rfl rfl hd fun H' e1 e2 e3 => ?_
  rw [narrow_byte] at e1
  have hu : zUp a H H' := zUp_of q1 e1 (by simp [Cell.setSlot]) e2 e3
  refine kk H' (zArr_set q2 q3 q4 q5 q6 e1) hu p e s m args below meth c _ ls cells slots g0 g1 A h1 h2 (fun q hq => ?_) h4 (hu.ok ha h5)
  rcases List.mem_append.mp hq with h | h
  · exact h3 q h
  · rw [List.mem_singleton.mp h]
    exact ha
theorem zw_zast {a n : Nat} {f : Nat → Value} {i x : Int32} (hd : decode M.2.1 pc = .ok (.bastore, 1)) (hA : zArr G H a .boolean n f) (hi : vp_in i n) (ha : zFr G a) (kk : ∀ H1 : Heap, zArr G H1 a .boolean n (updV f i.toNatClampNeg (narrow .boolean (.int x))) → zUp a H H1 → zW G d M (pc + 1) lv st H1 Q) : zW G d M pc lv (.int x :: .int i :: .ref a :: st) H Q := by
  intro p e s m args below meth c locs ls cells slots g0 g1 A h1 h2 h3 h4 h5
  obtain ⟨cell, q1, q2, q3, q4, q5, q6⟩ := hA
  refine W.zast A.1 A.2.1 q1 (State.isArrayOf_alike g1.alike q2) q3 (by rw [q4]; exact hi) rfl rfl hd fun H' e1 e2 e3 => ?_
  have hu : zUp a H H' := zUp_of q1 e1 (by simp [Cell.setSlot]) e2 e3
  refine kk H' (zArr_set q2 q3 q4 q5 q6 e1) hu p e s m args below meth c _ ls cells slots g0 g1 A h1 h2 (fun q hq => ?_) h4 (hu.ok ha h5)
  rcases List.mem_append.mp hq with h | h
  · exact h3 q h
  · rw [List.mem_singleton.mp h]
    exact ha
/-- new arrays of numbers -/
theorem zw_newa {aty : ArrayType} {n : Int32} {N : Nat} (ty : FieldType) (hd : decode M.2.1 pc = .ok (.newarray aty, 2)) (hty : newarray.typeOf aty = ty) (hw : Cond.arrayClass ty ∈ lw_tbl) (hn : ¬ n < 0) (hN : n.toNatClampNeg = N) (hb : N * componentBytes ty ≤ 536870912) (hc1 : H.size + 1 ≤ zCp G) (hs1 : zT H + N ≤ zSp G) (kk : ∀ H1 : Heap, zArr G H1 H.size ty N (fun _ => defaultValue ty) → zNw N H H1 → zW G d M (pc + 2) lv (.ref H.size :: st) H1 Q) : zW G d M pc lv (.int n :: st) H Q := by
  intro p e s m args below meth c locs ls cells slots g0 g1 A h1 h2 h3 h4 h5
  subst hty
  subst hN
  refine zw_norm fun b1 b2 => ?_
  have hsl := h5.2.2
  refine W.newa A.1 A.2.1 (word_at g1 (Or.inr ⟨_, rfl⟩) (g0.1 _ hw)) rfl hd rfl hn hb (by show _ ≤ zCp G - s.heap.size; omega) (by show _ ≤ zSp G - zT s.heap; omega) fun cA kA comp f1 f2 f3 => ?_
  have hnw : zNw n.toNatClampNeg H (H.push ({ cls := cA, slots := Array.replicate n.toNatClampNeg (defaultValue (newarray.typeOf aty)), vm := .none } : Cell)) := by
    have := zNw_push H ({ cls := cA, slots := Array.replicate n.toNatClampNeg (defaultValue (newarray.typeOf aty)), vm := .none } : Cell)
    rw [show (({ cls := cA, slots := Array.replicate n.toNatClampNeg (defaultValue (newarray.typeOf aty)), vm := .none } : Cell).slots.size) = n.toNatClampNeg by simp] at this
    exact this
  obtain ⟨k0, hk0, he⟩ := g1.alike.symm.2.2 _ _ f2
  refine kk _ ⟨_, Array.getElem?_push_size, ⟨(fun k h => (by cases h)), k0, hk0, comp, (by rw [he]; exact f3)⟩, (fun h => (by cases h)), (by simp), (fun j hj => (by simp [hj])), (fun _ => (show va_RA s cA (newarray.typeOf aty) by cases aty <;> exact f1).moved g1.alike.symm)⟩ hnw p e s m args below meth c locs ls _ _ g0 g1 A h1 h2 h3 h4 (hnw.ok hc1 hs1 h5)
theorem zw_ldcS {own tx : String} {idx a : Nat} (hd : decode M.2.1 pc = .ok (.ldc idx, 2)) (ho : M.1.cls = own) (hZ : vk_R own idx tx a (zS G)) (kk : zW G d M (pc + 2) lv (.ref a :: st) H Q) : zW G d M pc lv st H Q := by
  subst ho
  exact fun p e s m args below meth c locs ls cells slots g0 g1 A h1 h2 h3 h4 h5 => va_ldcS A.1 A.2.1 A.2.2.2.2.2.1 (hZ.warm g1) hd (kk p e s m args below meth c locs ls cells slots g0 g1 A h1 h2 h3 h4 h5)
theorem zw_ldc {idx : Nat} {v : Int32} (hd : decode M.2.1 pc = .ok (.ldc idx, 2)) (hw : Cond.constant M.1.cls idx v ∈ lw_tbl) (kk : zW G d M (pc + 2) lv (.int v :: st) H Q) : zW G d M pc lv st H Q :=
  fun p e s m args below meth c locs ls cells slots g0 g1 A h1 h2 h3 h4 h5 => lv_ldc A.1 A.2.1 A.2.2.2.2.2.1 (zWd g0 g1 hw rfl) hd (kk p e s m args below meth c locs ls cells slots g0 g1 A h1 h2 h3 h4 h5)
/-- a static that nobody writes -/
theorem zw_gets {C n ds ref : String} {v : Value} {idx : Nat} (hd : decode M.2.1 pc = .ok (.getstatic idx, 3)) (hZ : va_Z C n ds v (zFr G) (zS G) (zS G).heap) (hw : Cond.fieldLink M.1.cls idx ref n ds ∈ lw_tbl) (hsm : ref = C ∨ Cond.sameField ref C n ds ∈ lw_tbl) (kk : zW G d M (pc + 3) lv (v :: st) H Q) : zW G d M pc lv st H Q := by
  intro p e s m args below meth c locs ls cells slots g0 g1 A h1 h2 h3 h4 h5
  have hZ' : va_Z C n ds v (zFr G) s H := (hZ.moved g1.alike).kept (fun a ha _ => h5.2.1 a ha)
  obtain ⟨cf, kf, fi, f, a, cell, r1, r2, r3, r4, r5, r6, r7, r8⟩ := hZ'
  refine W.gets A.1 A.2.1 A.2.2.2.2.2.1 (zWd g0 g1 hw rfl) (cf := cf) (i := fi) (k := kf) (f := f) ?_ r2 r3 r4 r5 (fun e => by rw [e] at r6; cases r6) r7 rfl hd (kk p e s m args below meth c locs ls cells slots g0 g1 A h1 h2 h3 h4 h5)
  rcases hsm with rfl | h
  · exact r1
  · exact u_same (args := args) (zWd g0 g1 h rfl) _ r1
theorem zw_castN {idx : Nat} (hd : decode M.2.1 pc = .ok (.checkcast idx, 3)) (kk : zW G d M (pc + 3) lv (.null :: st) H Q) : zW G d M pc lv (.null :: st) H Q :=
  fun p e s m args below meth c locs ls cells slots g0 g1 A h1 h2 h3 h4 h5 => lv_castN A.1 A.2.1 hd (kk p e s m args below meth c locs ls cells slots g0 g1 A h1 h2 h3 h4 h5)
theorem zIs.recv {s : State} {a ci N : Nat} {C : String} {T : u_T} (h : zIs G H a ci) (g0 : zGo G) (g1 : zEnv G s) (hc : classes[ci]? = some (C, T, N)) : ∃ cell : Cell, H[a]? = some cell ∧ cell.vm.isStatics = false ∧ s.vm.findClass C = some cell.cls := by
  obtain ⟨cell, q1, q2, q3⟩ := h
  exact ⟨cell, q1, q2, by rw [q3]; exact ((zK_at g0 g1).1 ci _ hc).2.1⟩
/-- checkcast, instanceof of an object of that very class -/
theorem zw_cast {idx ci a N : Nat} {C : String} {T : u_T} (hd : decode M.2.1 pc = .ok (.checkcast idx, 3)) (hc : classes[ci]? = some (C, T, N)) (hw : Cond.classLink M.1.cls idx C ∈ lw_tbl) (ho : zIs G H a ci) (kk : zW G d M (pc + 3) lv (.ref a :: st) H Q) : zW G d M pc lv (.ref a :: st) H Q :=
  fun p e s m args below meth c locs ls cells slots g0 g1 A h1 h2 h3 h4 h5 => va_castS A.1 A.2.1 A.2.2.2.2.2.1 (zWd g0 g1 hw rfl) ((zK_at g0 g1).1 ci _ hc).2 (ho.recv g0 g1 hc) hd (kk p e s m args below meth c locs ls cells slots g0 g1 A h1 h2 h3 h4 h5)
theorem zw_inst {idx ci a N : Nat} {C : String} {T : u_T} (hd : decode M.2.1 pc = .ok (.instanceof idx, 3)) (hc : classes[ci]? = some (C, T, N)) (hw : Cond.classLink M.1.cls idx C ∈ lw_tbl) (ho : zIs G H a ci) (kk : zW G d M (pc + 3) lv (.int 1 :: st) H Q) : zW G d M pc lv (.ref a :: st) H Q :=
  fun p e s m args below meth c locs ls cells slots g0 g1 A h1 h2 h3 h4 h5 => va_instS A.1 A.2.1 A.2.2.2.2.2.1 (zWd g0 g1 hw rfl) ((zK_at g0 g1).1 ci _ hc).2 (ho.recv g0 g1 hc) hd (kk p e s m args below meth c locs ls cells slots g0 g1 A h1 h2 h3 h4 h5)
/-- ends -/
theorem zw_iret {v : Int32} (hd : decode M.2.1 pc = .ok (.ireturn, 1)) (ty : FieldType) (hr : M.2.2.2 = some ty) (hn : narrow ty (.int v) = .int v) (hq : Q (some (.int v)) H) : zW G d M pc lv [.int v] H Q := by
  intro p e s m args below meth c locs ls cells slots g0 g1 A h1 h2 h3 h4 h5
  refine zw_norm fun b1 b2 => W.widen (k := zCp G - s.heap.size) (n := zSp G - zT s.heap) (by have := h5.2.2.1; omega) (by have := h5.2.2.2; omega) ?_
  exact W.zret A.1 A.2.1 (A.2.2.2.1.trans hr) hn (fun t ht _ => ⟨_, rfl, by rw [ht]; exact hq, by rw [ht]; exact h5, by rw [ht]; exact b1, by rw [ht]; exact b2⟩) h3 hd A.2.2.2.2.1
theorem zw_vret (hd : decode M.2.1 pc = .ok (.return_, 1)) (hr : M.2.2.2 = none) (hq : Q none H) : zW G d M pc lv [] H Q := by
  intro p e s m args below meth c locs ls cells slots g0 g1 A h1 h2 h3 h4 h5
  refine zw_norm fun b1 b2 => W.widen (k := zCp G - s.heap.size) (n := zSp G - zT s.heap) (by have := h5.2.2.1; omega) (by have := h5.2.2.2; omega) ?_
  exact W.vret A.1 A.2.1 (A.2.2.2.1.trans hr) (fun t ht _ => ⟨_, rfl, by rw [ht]; exact hq, by rw [ht]; exact h5, by rw [ht]; exact b1, by rw [ht]; exact b2⟩) h3 hd A.2.2.2.2.1
theorem zw_aret {v : Value} (hd : decode M.2.1 pc = .ok (.areturn, 1)) (ty : FieldType) (hr : M.2.2.2 = some ty) (hty : (∃ n, ty = .object n) ∨ ∃ t, ty = .array t) (hv : zRf v) (hq : Q (some v) H) : zW G d M pc lv [v] H Q := by
  intro p e s m args below meth c locs ls cells slots g0 g1 A h1 h2 h3 h4 h5
  refine zw_norm fun b1 b2 => W.widen (k := zCp G - s.heap.size) (n := zSp G - zT s.heap) (by have := h5.2.2.1; omega) (by have := h5.2.2.2; omega) ?_
  exact W.aret A.1 A.2.1 (A.2.2.2.1.trans hr) hty hv (fun t ht _ => ⟨_, rfl, by rw [ht]; exact hq, by rw [ht]; exact h5, by rw [ht]; exact b1, by rw [ht]; exact b2⟩) h3 hd A.2.2.2.2.1
end ZH
