/-- nothing that was there has changed but what S names -/
def zMo (S : List Nat) (H H1 : Heap) : Prop := H.size ≤ H1.size ∧ ∀ q : Nat, q < H.size → q ∉ S → H1[q]? = H[q]?
theorem zMo.rf {S : List Nat} {H : Heap} : zMo S H H := ⟨Nat.le_refl _, fun _ _ _ => rfl⟩
theorem zMo.tr {S S1 S2 : List Nat} {H H1 H2 : Heap} (h1 : zMo S1 H H1) (h2 : zMo S2 H1 H2) (e1 : ∀ q ∈ S1, q ∈ S ∨ H.size ≤ q) (e2 : ∀ q ∈ S2, q ∈ S ∨ H.size ≤ q) : zMo S H H2 := by
  refine ⟨Nat.le_trans h1.1 h2.1, fun q hq hS => ?_⟩
  rw [h2.2 q (Nat.lt_of_lt_of_le hq h1.1) (fun z => (e2 q z).elim hS (fun w => by omega)), h1.2 q hq (fun z => (e1 q z).elim hS (fun w => by omega))]
theorem zMo.mono {S S1 : List Nat} {H H1 : Heap} (h1 : zMo S1 H H1) (e1 : ∀ q ∈ S1, q ∈ S ∨ H.size ≤ q) : zMo S H H1 := h1.tr (zMo.rf (S := [])) e1 (fun q h => by cases h)
theorem zUp.mo {a : Nat} {H H1 : Heap} (h : zUp a H H1) : zMo [a] H H1 := ⟨Nat.le_of_eq h.1.symm, fun q _ hq => h.2.2 q (fun e => hq (by rw [e]; exact List.mem_singleton.mpr rfl))⟩
theorem zNw.mo {n : Nat} {H H1 : Heap} (h : zNw n H H1) : zMo [] H H1 := ⟨by have := h.1; omega, fun q hq _ => h.2.2 q hq⟩
/-- one more step behind: a store at a place of S or at a new one; a new cell; a call -/
theorem zMo.up {S : List Nat} {a : Nat} {H H1 H2 : Heap} (h1 : zMo S H H1) (h2 : zUp a H1 H2) (ha : a ∈ S ∨ H.size ≤ a) : zMo S H H2 := h1.tr h2.mo (fun q h => Or.inl h) (fun q h => by rw [List.mem_singleton.mp h]; exact ha)
theorem zMo.nw {S : List Nat} {n : Nat} {H H1 H2 : Heap} (h1 : zMo S H H1) (h2 : zNw n H1 H2) : zMo S H H2 := h1.tr h2.mo (fun q h => Or.inl h) (fun q h => by cases h)
theorem zMo.ex {S : List Nat} {H H1 H2 : Heap} (h1 : zMo S H H1) (h2 : zMo [] H1 H2) : zMo S H H2 := h1.tr h2 (fun q h => Or.inl h) (fun q h => by cases h)
theorem zObj.mo {G : zG} {S : List Nat} {H H1 : Heap} {a ci : Nat} {fs : List Value} (h : zObj G H a ci fs) (m : zMo S H H1) (ha : a ∉ S) : zObj G H1 a ci fs := h.kept (m.2 a h.lt ha)
theorem zIs.mo {G : zG} {S : List Nat} {H H1 : Heap} {a ci : Nat} (h : zIs G H a ci) (m : zMo S H H1) (ha : a ∉ S) : zIs G H1 a ci := h.kept (m.2 a h.lt ha)
theorem zFd.mo {G : zG} {S : List Nat} {H H1 : Heap} {a ci k : Nat} {v : Value} (h : zFd G H a ci k v) (m : zMo S H H1) (ha : a ∉ S) : zFd G H1 a ci k v := h.kept (m.2 a h.lt ha)
theorem zArr.mo {G : zG} {S : List Nat} {H H1 : Heap} {a : Nat} {ty : FieldType} {n : Nat} {f : Nat → Value} (h : zArr G H a ty n f) (m : zMo S H H1) (ha : a ∉ S) : zArr G H1 a ty n f := h.kept (m.2 a h.lt ha)
theorem zObj.ex {G : zG} {H H1 : Heap} {a ci : Nat} {fs : List Value} (h : zObj G H a ci fs) (m : zMo [] H H1) : zObj G H1 a ci fs := h.mo m List.not_mem_nil
theorem zIs.ex {G : zG} {H H1 : Heap} {a ci : Nat} (h : zIs G H a ci) (m : zMo [] H H1) : zIs G H1 a ci := h.mo m List.not_mem_nil
theorem zFd.ex {G : zG} {H H1 : Heap} {a ci k : Nat} {v : Value} (h : zFd G H a ci k v) (m : zMo [] H H1) : zFd G H1 a ci k v := h.mo m List.not_mem_nil
theorem zArr.ex {G : zG} {H H1 : Heap} {a : Nat} {ty : FieldType} {n : Nat} {f : Nat → Value} (h : zArr G H a ty n f) (m : zMo [] H H1) : zArr G H1 a ty n f := h.mo m List.not_mem_nil
/-- an array's picture may be told otherwise -/
theorem zArr.to {G : zG} {H : Heap} {a : Nat} {ty : FieldType} {n : Nat} {f g : Nat → Value} (h : zArr G H a ty n f) (e : ∀ j, j < n → f j = g j) : zArr G H a ty n g := by
  obtain ⟨cell, h1, h2, h3, h4, h5, h6⟩ := h
  exact ⟨cell, h1, h2, h3, h4, fun j hj => (by rw [← e j hj]; exact h5 j hj), h6⟩
/-- room for c cells of s slots; no more than that was used -/
def zRm (G : zG) (H : Heap) (c s : Nat) : Prop := H.size + c ≤ zCp G ∧ zT H + s ≤ zSp G
def zUs (c s : Nat) (H H1 : Heap) : Prop := H1.size ≤ H.size + c ∧ zT H1 ≤ zT H + s
theorem zUs.rf {c s : Nat} {H : Heap} : zUs c s H H := ⟨Nat.le_add_right _ _, Nat.le_add_right _ _⟩
theorem zRm.us {G : zG} {H H1 : Heap} {c s c1 s1 : Nat} (h : zRm G H c s) (u : zUs c1 s1 H H1) (c2 s2 : Nat) (hc : c1 + c2 ≤ c) (hs : s1 + s2 ≤ s) : zRm G H1 c2 s2 := by
  obtain ⟨a1, a2⟩ := h
  obtain ⟨b1, b2⟩ := u
  exact ⟨by omega, by omega⟩
theorem zRm.le {G : zG} {H : Heap} {c s : Nat} (h : zRm G H c s) (c2 s2 : Nat) (hc : c2 ≤ c) (hs : s2 ≤ s) : zRm G H c2 s2 := h.us (c1 := 0) (s1 := 0) zUs.rf c2 s2 (by omega) (by omega)
theorem zUs.tr {c s c1 s1 c2 s2 : Nat} {H H1 H2 : Heap} (h1 : zUs c1 s1 H H1) (h2 : zUs c2 s2 H1 H2) (hc : c1 + c2 ≤ c) (hs : s1 + s2 ≤ s) : zUs c s H H2 := by
  obtain ⟨a1, a2⟩ := h1
  obtain ⟨b1, b2⟩ := h2
  exact ⟨by omega, by omega⟩
theorem zUs.le {c s c1 s1 : Nat} {H H1 : Heap} (h1 : zUs c1 s1 H H1) (hc : c1 ≤ c) (hs : s1 ≤ s) : zUs c s H H1 := h1.tr (c2 := 0) (s2 := 0) zUs.rf (by omega) (by omega)
theorem zUp.us {a c s : Nat} {H H1 : Heap} (h : zUp a H H1) : zUs c s H H1 := ⟨by have := h.1; omega, by have := h.2.1; omega⟩
theorem zNw.us {n : Nat} {H H1 : Heap} (h : zNw n H H1) : zUs 1 n H H1 := ⟨by have := h.1; omega, by have := h.2.1; omega⟩
