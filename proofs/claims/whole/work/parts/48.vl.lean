/-- two lists, place by place -/
def zF2 {α : Type} (P : Nat → α → Prop) (xs : List Nat) (ys : List α) : Prop := xs.length = ys.length ∧ ∀ (i x : Nat) (y : α), xs[i]? = some x → ys[i]? = some y → P x y
theorem zF2.nil {α : Type} {P : Nat → α → Prop} : zF2 P [] [] := ⟨rfl, fun i x y h => by cases h⟩
theorem zF2.mono {α : Type} {P P2 : Nat → α → Prop} {xs : List Nat} {ys : List α} (h : zF2 P xs ys) (hp : ∀ x y, P x y → P2 x y) : zF2 P2 xs ys := ⟨h.1, fun i x y h1 h2 => hp x y (h.2 i x y h1 h2)⟩
theorem zF2.get {α : Type} {P : Nat → α → Prop} {xs : List Nat} {ys : List α} (h : zF2 P xs ys) {i : Nat} (hi : i < ys.length) : P (xs.getD i 0) ys[i] := by
  have hx : i < xs.length := by rw [h.1]; exact hi
  refine h.2 i _ _ ?_ (List.getElem?_eq_getElem hi)
  rw [List.getD_eq_getElem?_getD, List.getElem?_eq_getElem hx]
  rfl
theorem zF2.of {α : Type} {P : Nat → α → Prop} {xs : List Nat} {ys : List α} (h : zF2 P xs ys) {x : Nat} (hx : x ∈ xs) : ∃ y, y ∈ ys ∧ P x y := by
  obtain ⟨i, hi, e⟩ := List.getElem_of_mem hx
  have hy : i < ys.length := by rw [← h.1]; exact hi
  exact ⟨ys[i], List.getElem_mem hy, h.2 i x _ (by rw [List.getElem?_eq_getElem hi, e]) (List.getElem?_eq_getElem hy)⟩
theorem zF2.app {α : Type} {P : Nat → α → Prop} {xs : List Nat} {ys : List α} (h : zF2 P xs ys) {b : Nat} {y : α} (hb : P b y) : zF2 P (xs ++ [b]) (ys ++ [y]) := by
  refine ⟨by rw [List.length_append, List.length_append, h.1]; rfl, fun i x z h1 h2 => ?_⟩
  by_cases q : i < xs.length
  · rw [List.getElem?_append_left q] at h1
    rw [List.getElem?_append_left (by rw [← h.1]; exact q)] at h2
    exact h.2 i x z h1 h2
  · rw [List.getElem?_append_right (Nat.not_lt.mp q)] at h1
    rw [List.getElem?_append_right (by rw [← h.1]; exact Nat.not_lt.mp q), ← h.1] at h2
    cases hk : i - xs.length with
    | zero =>
      rw [hk] at h1 h2
      cases h1
      cases h2
      exact hb
    | succ k => rw [hk] at h1; cases h1
theorem zF2.set {α : Type} {P : Nat → α → Prop} {xs : List Nat} {ys : List α} (h : zF2 P xs ys) {b : Nat} {y : α} (hb : P b y) (i : Nat) : zF2 P (xs.set i b) (ys.set i y) := by
  refine ⟨by rw [List.length_set, List.length_set, h.1], fun j x z h1 h2 => ?_⟩
  rw [List.getElem?_set] at h1 h2
  by_cases q : i = j
  · rw [if_pos q] at h1 h2
    split at h1
    · split at h2
      · cases h1; cases h2; exact hb
      · cases h2
    · cases h1
  · rw [if_neg q] at h1 h2
    exact h.2 j x z h1 h2
theorem zF2.era {α : Type} {P : Nat → α → Prop} {xs : List Nat} {ys : List α} (h : zF2 P xs ys) (i : Nat) : zF2 P (xs.eraseIdx i) (ys.eraseIdx i) := by
  refine ⟨by rw [List.length_eraseIdx, List.length_eraseIdx, h.1], fun j x z h1 h2 => ?_⟩
  rw [List.getElem?_eraseIdx] at h1 h2
  split at h1
  · next q => rw [if_pos q] at h2; exact h.2 j x z h1 h2
  · next q => rw [if_neg q] at h2; exact h.2 (j + 1) x z h1 h2
/-- a kind of objects that never change -/
def zKd {α : Type} (G : zG) (ci : Nat) (P : List Nat → Heap → Nat → α → Prop) : Prop := (∀ L H x y, P L H x y → zFr G x ∧ x ∉ L ∧ zIs G H x ci) ∧ ∀ L L2 S H H1 x y, P L H x y → zMo S H H1 → (∀ q ∈ S, q ∈ L ∨ H.size ≤ q) → (∀ q ∈ L2, q ∈ L ∨ H.size ≤ q) → P L2 H1 x y
theorem zKd_an {G : zG} : zKd G 3 (zAnO G) := ⟨fun _ _ _ _ h => ⟨h.1, h.2.1, h.2.2.1⟩, fun _ _ _ _ _ _ _ h m h1 h2 => h.st m h1 h2⟩
theorem zKd_ck {G : zG} : zKd G 11 (zCkO G) := ⟨fun _ _ _ _ h => ⟨h.1, h.2.1, h.2.2.1⟩, fun _ _ _ _ _ _ _ h m h1 h2 => h.st m h1 h2⟩
theorem zKd_ke {G : zG} : zKd G 12 (zKeO G) := ⟨fun _ _ _ _ h => ⟨h.1, h.2.1, h.2.2.1⟩, fun _ _ _ _ _ _ _ h m h1 h2 => h.st m h1 h2⟩
theorem zEl_an : zEl 3 := ⟨_, _, _, rfl, zco_An⟩
theorem zEl_ck : zEl 11 := ⟨_, _, _, rfl, zco_Ck⟩
theorem zEl_ke : zEl 12 := ⟨_, _, _, rfl, zco_Kt⟩
/-- an ArrayList at a with all its cells in r, of things ys -/
def zVr {α : Type} (G : zG) (P : List Nat → Heap → Nat → α → Prop) (L : List Nat) (H : Heap) (r : List Nat) (a m ci : Nat) (ys : List α) : Prop := a ∈ r ∧ (∀ q ∈ r, q ∈ L) ∧ ∃ (e : Nat) (xs : List Nat), (m = 0 → e < (zS G).heap.size) ∧ (m ≠ 0 → e ∈ r) ∧ zAL G H a e m ci xs ∧ zF2 (P L H) xs ys
section KV
variable {G : zG} {d : Nat} {L r : List Nat} {H : Heap} {a b m ci : Nat} {α : Type} {P : List Nat → Heap → Nat → α → Prop} {ys : List α}
theorem zVr.is (h : zVr G P L H r a m ci ys) : zIs G H a 5 := by
  obtain ⟨_, _, e, xs, _, _, h1, _⟩ := h
  exact h1.is
theorem zVr.ne {e : Nat} {xs : List Nat} (hK : zKd G ci P) (ha : a ∈ r) (hr : ∀ q ∈ r, q ∈ L) (h0 : m = 0 → e < (zS G).heap.size) (h1 : m ≠ 0 → e ∈ r) {x : Nat} {y : α} (hp : P L H x y) : x ≠ a ∧ x ≠ e := by
  obtain ⟨k1, k2, k3⟩ := hK.1 L H x y hp
  refine ⟨fun z => k2 (z ▸ hr a ha), fun z => ?_⟩
  by_cases q : m = 0
  · have := h0 q
    have k1' : (zS G).heap.size ≤ x := k1
    omega
  · exact k2 (z ▸ hr e (h1 q))
theorem zMo.fr {S S2 : List Nat} {H1 : Heap} (h : zMo S H H1) (ho : zOk G H) (ho1 : zOk G H1) (hS : ∀ q ∈ S, q ∈ S2 ∨ q < (zS G).heap.size) : zMo S2 H H1 := by
  refine ⟨h.1, fun q hq hn => ?_⟩
  by_cases z : q ∈ S
  · rcases hS q z with w | w
    · exact absurd w hn
    · rw [ho1.2.1 q w, ho.2.1 q w]
  · exact h.2 q hq z
theorem zVr.st {L2 r2 S : List Nat} {H1 : Heap} (hK : zKd G ci P) (h : zVr G P L H r a m ci ys) (mo : zMo S H H1) (ho : zOk G H) (ho1 : zOk G H1) (hd : ∀ q ∈ r, q ∉ S) (hS : ∀ q ∈ S, q ∈ L ∨ H.size ≤ q) (hL : ∀ q ∈ L2, q ∈ L ∨ H.size ≤ q) (hr : ∀ q ∈ r, q ∈ r2) (hr2 : ∀ q ∈ r2, q ∈ L2) : zVr G P L2 H1 r2 a m ci ys := by
  obtain ⟨h1, h2, e, xs, h3, h4, h5, h6⟩ := h
  have hx : ∀ x ∈ xs, x ∉ S := fun x z w => by
    obtain ⟨y, _, hy⟩ := h6.of z
    obtain ⟨k1, k2, k3⟩ := hK.1 L H x y hy
    rcases hS x w with q | q
    · exact k2 q
    · have := k3.lt; omega
  refine ⟨hr a h1, hr2, e, xs, h3, fun z => hr e (h4 z), ?_, h6.mono (fun x y hy => hK.2 L L2 S H H1 x y hy mo hS hL)⟩
  by_cases q : m = 0
  · have he := h3 q
    have mo2 : zMo (S.filter (fun z => decide (z ≠ e))) H H1 := mo.fr ho ho1 (fun z hz => by
      by_cases w : z = e
      · exact Or.inr (by rw [w]; exact he)
      · exact Or.inl (List.mem_filter.mpr ⟨hz, by simp [w]⟩))
    exact h5.mo mo2 (fun z => hd a h1 (List.mem_filter.mp z).1) (fun z => by have := (List.mem_filter.mp z).2; simp at this) (fun x hx1 z => hx x hx1 (List.mem_filter.mp z).1)
  · exact h5.mo mo (hd a h1) (hd e (h4 q)) hx
theorem v_size (hC : zCs G) (h : zVr G P L H r a m ci ys) : zC G d M_Al_size [.ref a] H (zRd H (nI ys.length)) := by
  obtain ⟨_, _, e, xs, _, _, h1, h2⟩ := h
  rw [← h2.1]
  exact c_Al_size hC h1
theorem v_get (hC : zCs G) (hd : 2 ≤ d) (h : zVr G P L H r a m ci ys) {i : Nat} (hi : i < ys.length) : zC G d M_Al_get [.ref a, .int (nI i)] H (zPr fun v H1 => ∃ x, v = .ref x ∧ P L H x ys[i] ∧ H1 = H) := by
  obtain ⟨_, _, e, xs, _, _, h1, h2⟩ := h
  refine zC_mono (c_Al_get hC hd h1 (i := i) (by rw [h2.1]; exact hi)) ?_
  rintro v H1 ⟨w, rfl, hw, rfl, rfl⟩
  exact ⟨_, rfl, hw, _, rfl, h2.get hi, rfl⟩
theorem v_set (hC : zCu G) (hd : 2 ≤ d) (hK : zKd G ci P) (hE : zEl ci) (h : zVr G P L H r a m ci ys) {i : Nat} (hi : i < ys.length) {y : α} (hb : P L H b y) (hL : zLi G H L) : zC G d M_Al_set [.ref a, .int (nI i), .ref b] H (zPr fun _ H1 => zVr G P L H1 r a m ci (ys.set i y) ∧ zMo r H H1 ∧ zUs 0 0 H H1) := by
  obtain ⟨h1, h2, e, xs, h3, h4, h5, h6⟩ := h
  have hm : m ≠ 0 := fun z => by
    have := h5.2.2.2.2.2.2.1
    rw [h6.1] at this
    omega
  have hee := h4 hm
  refine zC_mono (c_Al_set hC.1 hd h5 (i := i) (by rw [h6.1]; exact hi) (hK.1 L H b y hb).2.2 hE (fun x z => by
    obtain ⟨y, _, hy⟩ := h6.of z
    exact (zVr.ne hK h1 h2 h3 h4 hy (xs := xs)).2) (zVr.ne hK h1 h2 h3 h4 hb (xs := xs)).2) ?_
  rintro v H1 ⟨w, rfl, hw, g1, g2, g3⟩
  have hS : ∀ q ∈ [e], q ∈ L ∨ H.size ≤ q := fun q z => Or.inl (by rw [List.mem_singleton.mp z]; exact h2 e hee)
  refine ⟨_, rfl, hw, ⟨h1, h2, e, xs.set i b, h3, h4, g1, (h6.set hb i).mono (fun x y hy => hK.2 L L _ H H1 x y hy g2 hS (fun q z => Or.inl z))⟩, g2.mono (fun q z => Or.inl (by rw [List.mem_singleton.mp z]; exact hee)), g3⟩
theorem v_remove (hC : zCu G) (hd : 2 ≤ d) (hK : zKd G ci P) (hE : zEl ci) (h : zVr G P L H r a m ci ys) {i : Nat} (hi : i < ys.length) : zC G d M_Al_remove [.ref a, .int (nI i)] H (zPr fun _ H1 => zVr G P L H1 r a m ci (ys.eraseIdx i) ∧ zMo r H H1 ∧ zUs 0 0 H H1) := by
  obtain ⟨h1, h2, e, xs, h3, h4, h5, h6⟩ := h
  have hm : m ≠ 0 := fun z => by
    have := h5.2.2.2.2.2.2.1
    rw [h6.1] at this
    omega
  have hee := h4 hm
  refine zC_mono (c_Al_remove hC hd h5 hE (i := i) (by rw [h6.1]; exact hi) (fun x z => by
    obtain ⟨y, _, hy⟩ := h6.of z
    exact zVr.ne hK h1 h2 h3 h4 hy (xs := xs))) ?_
  rintro v H1 ⟨w, rfl, hw, g1, g2, g3⟩
  have hr : ∀ q ∈ [a, e], q ∈ r := fun q z => by
    rcases List.mem_cons.mp z with rfl | z
    · exact h1
    · rw [List.mem_singleton.mp z]; exact hee
  refine ⟨_, rfl, hw, ⟨h1, h2, e, xs.eraseIdx i, h3, h4, g1, (h6.era i).mono (fun x y hy => hK.2 L L _ H H1 x y hy g2 (fun q z => Or.inl (h2 q (hr q z))) (fun q z => Or.inl z))⟩, g2.mono (fun q z => Or.inl (hr q z)), g3⟩
/-- one more: the list's region may have got a new cell -/
theorem v_add (hC : zCu G) (hd : 6 ≤ d) (hK : zKd G ci P) (hE : zEl ci) (h : zVr G P L H r a m ci ys) {y : α} (hb : P L H b y) (hn : ys.length ≤ 300) (hR : zRm G H 1 (10 + 2 * ys.length)) (ho : zOk G H) : zC G d M_Al_add_0 [.ref a, .ref b] H (zPi fun _ H1 => zOk G H1 → ∃ e' m' : Nat, (e' ∈ r ∨ (H.size ≤ e' ∧ e' < H1.size)) ∧ zVr G P (e' :: L) H1 (e' :: r) a m' ci (ys ++ [y]) ∧ m ≤ m' ∧ (m' = m ∨ m' ≤ 10 + 2 * ys.length) ∧ zMo r H H1 ∧ zUs (m' - m) (4 * (m' - m)) H H1) := by
  obtain ⟨h1, h2, e, xs, h3, h4, h5, h6⟩ := h
  have hbn := zVr.ne hK h1 h2 h3 h4 hb (xs := xs)
  refine zC_mono (c_Al_add hC hd h5 hE (hK.1 L H b y hb).2.2 (by rw [h6.1]; exact hn) (fun x z => by
    obtain ⟨y, _, hy⟩ := h6.of z
    exact zVr.ne hK h1 h2 h3 h4 hy (xs := xs)) hbn.1 hbn.2 (by rw [h6.1]; exact hR)) ?_
  rintro v H1 ⟨k, rfl, e', m', g1, g2, g3, g4, g5, g6⟩
  refine ⟨k, rfl, fun ho1 => ?_⟩
  rw [h6.1] at g4
  have hm' : m' ≠ 0 := fun z => by
    have := g1.2.2.2.2.2.2.1
    rw [List.length_append] at this
    simp at this
    omega
  have hfe : zFr G e' := by
    rcases g1.2.2.2.2.1 with q | q
    · exact absurd q.1 hm'
    · exact q.2
  have he' : e' ∈ r ∨ (H.size ≤ e' ∧ e' < H1.size) := by
    rcases g2 with q | q
    · by_cases z : m = 0
      · have h7 := h3 z
        have hfe' : (zS G).heap.size ≤ e' := hfe
        omega
      · rw [q]; exact Or.inl (h4 z)
    · exact Or.inr ⟨q, g1.lt.2⟩
  have mo : zMo r H H1 := g5.fr ho ho1 (fun q z => by
    rcases List.mem_cons.mp z with rfl | z
    · exact Or.inl h1
    · rw [List.mem_singleton.mp z]
      by_cases w : m = 0
      · exact Or.inr (h3 w)
      · exact Or.inl (h4 w))
  refine ⟨e', m', he', ⟨List.mem_cons_of_mem _ h1, fun q z => ?_, e', xs ++ [b], fun z => absurd z hm', fun _ => List.mem_cons_self, g1, (h6.app hb).mono (fun x y hy => hK.2 L (e' :: L) r H H1 x y hy mo (fun q z => Or.inl (h2 q z)) (fun q z => ?_))⟩, g3, g4, mo, g6⟩
  · rcases List.mem_cons.mp z with rfl | z
    · exact List.mem_cons_self
    · exact List.mem_cons_of_mem _ (h2 q z)
  · rcases List.mem_cons.mp z with rfl | z
    · rcases he' with w | w
      · exact Or.inl (h2 _ w)
      · exact Or.inr w.1
    · exact Or.inl z
end KV
