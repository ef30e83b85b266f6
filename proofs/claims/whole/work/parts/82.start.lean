/-! The start: what the Statement gives of it. -/
theorem st_arr {args : Array Value} {s : State} {tm : Term} {ty : FieldType} {N : Nat} {f : Nat → Value} (hN : N < 2 ^ 31) (harr : (Cond.arrayOf tm ty).before args s = true) (hlen : (Term.length tm).eval args s none [] s = some (.int (Int32.ofNat N))) (hel : ∀ j : Nat, j < N → (Term.elem tm (.int (Int32.ofNat j))).eval args s none [] s = some (f j)) : ∃ t : Nat, tm.eval args s none [] s = some (.ref t) ∧ ∃ cell : Cell, s.heap[t]? = some cell ∧ s.isArrayOf cell ty ∧ cell.vm ≠ .unknown ∧ cell.slots.size = N ∧ ∀ j : Nat, j < N → cell.slots[j]? = some (f j) := by
  obtain ⟨t, cell, ht, hat, hv⟩ := Term.length_spec hlen
  have hsz : cell.slots.size < 2 ^ 31 := by
    simp only [Term.eval, ht, hat, Option.bind_eq_bind, Option.bind_some] at hlen
    by_cases hlt : cell.slots.size < 2147483648
    · exact hlt
    · simp [hlt] at hlen
  obtain ⟨hcell, hkn, -, -⟩ := State.arrayAt?_spec hat
  obtain ⟨hof, -⟩ := Cond.arrayOf_spec harr ht hcell
  have hse : cell.slots.size = N := by
    have e : nI N = nI cell.slots.size := Value.int.inj hv
    exact ((nI_eq hN hsz).mp e).symm
  refine ⟨t, ht, cell, hcell, hof, hkn, hse, fun j hj => ?_⟩
  obtain ⟨a, i, cell2, h1, h2, h3, h4, h5⟩ := Term.elem_spec (hel j hj)
  cases ht.symm.trans h1
  cases hat.symm.trans h3
  have hi : i = Int32.ofNat j := by
    have e : (Term.int (Int32.ofNat j)).eval args s none [] s = some (.int (Int32.ofNat j)) := rfl
    cases h2.symm.trans e
    rfl
  have hc : i.toNatClampNeg = j := by rw [hi]; exact Int32.toNatClampNeg_ofNat_of_lt (Nat.lt_trans hj hN)
  rw [hc] at h5
  exact h5
/-- what is said of a String constant -/
def liC (own : String) (k : Nat) (t : List Nat) : List Cond := [.exactly (.string own k) "java/lang/String", .eq (.field (.string own k) "java/lang/String" "coder" "B") (.int 0), .arrayOf (.field (.string own k) "java/lang/String" "value" "[B") .byte, .eq (.length (.field (.string own k) "java/lang/String" "value" "[B")) (.int (Int32.ofNat t.length))] ++ (List.range t.length).map (fun j => .eq (.elem (.field (.string own k) "java/lang/String" "value" "[B") (.int (Int32.ofNat j))) (.int (sb_b (t.getD j 0))))
def zLits2 : List (String × Nat × String × List Nat) := ("java/lang/StringLatin1", 151, "", []) :: zLits
abbrev stC : Cond := .and given_1 narrow_1
theorem liC_in : ∀ q ∈ zLits2, ∀ w ∈ liC q.1 q.2.1 q.2.2.2, w ∈ flatC stC := by
  have h : zLits2.all (fun q => (liC q.1 q.2.1 q.2.2.2).all (fun w => decide (w ∈ flatC stC))) = true := by decide +kernel
  intro q hq w hw
  exact of_decide_eq_true (List.all_eq_true.mp (List.all_eq_true.mp h q hq) w hw)
theorem liR_in : ∀ q ∈ zLits2, Cond.stringRef q.1 q.2.1 q.2.2.1 ∈ lw_tbl := by
  have h : zLits2.all (fun q => decide (Cond.stringRef q.1 q.2.1 q.2.2.1 ∈ tables_1)) = true := by decide +kernel
  intro q hq
  exact List.mem_append_right _ (of_decide_eq_true (List.all_eq_true.mp h q hq))
theorem liB_ok : ∀ q ∈ zLits2, (∀ c ∈ q.2.2.2, c < 256) ∧ q.2.2.2.length ≤ 65536 := by decide +kernel
section NH
variable {G : zG} {args : Array Value} {s : State}
theorem li_of (hs : zS G = s) (hg : ∀ w ∈ flatC stC, w.before args s = true) (ht : ∀ w ∈ lw_tbl, w.before args s = true) (hK : va_K (zD G) classes [] s) (q : String × Nat × String × List Nat) (hq : q ∈ zLits2) : zLt G q.1 q.2.1 q.2.2.1 q.2.2.2 := by
  obtain ⟨own, k, tx, t⟩ := q
  have c := fun w hw => hg w (liC_in _ hq w hw)
  obtain ⟨hb, hl⟩ := liB_ok _ hq
  have href := ht _ (liR_in _ hq)
  dsimp only at c hb hl href ⊢
  have c1 := c (.exactly (.string own k) "java/lang/String") (by unfold liC; simp)
  have c2 := c (.eq (.field (.string own k) "java/lang/String" "coder" "B") (.int 0)) (by unfold liC; simp)
  have c3 := c (.arrayOf (.field (.string own k) "java/lang/String" "value" "[B") .byte) (by unfold liC; simp)
  have c4 := c (.eq (.length (.field (.string own k) "java/lang/String" "value" "[B")) (.int (Int32.ofNat t.length))) (by unfold liC; simp)
  have c5 : ∀ j, j < t.length → (Cond.eq (.elem (.field (.string own k) "java/lang/String" "value" "[B") (.int (Int32.ofNat j))) (.int (sb_b (t.getD j 0)))).before args s = true := fun j hj => c _ (by
    unfold liC
    exact List.mem_append_right _ (List.mem_map.mpr ⟨j, List.mem_range.mpr hj, rfl⟩))
  obtain ⟨a, cl, cell, kk, q1, q2, q3, q4, q5, q6, -⟩ := Cond.exactly_spec (args := args) (first := s) (o := none) (s := s) (idx := []) (t := .string own k) (cls := "java/lang/String") c1
  obtain ⟨v, hv, cv, v1, v2, v3, v4, v5⟩ := st_arr (f := fun j => .int (sb_b (t.getD j 0))) (N := t.length) (by omega) c3 (va_eqt c4) (fun j hj => va_eqt (c5 j hj))
  have hSt := hK.1 8 ("java/lang/String", T_St, 4) rfl
  have hcl : cell.cls = (zD G).1 8 := by
    have := hSt.2.1
    rw [q2] at this
    rw [q6]; exact Option.some.inj this
  have ok : ∀ {n d : String} {w : Value} {i : Nat}, SlotIs s "java/lang/String" n d i → (Term.field (.string own k) "java/lang/String" n d).eval args s none [] s = some w → ∃ cell2 : Cell, s.heap[a]? = some cell2 ∧ cell2.vm ≠ .unknown ∧ cell2.slots[i]? = some w := fun hsl hev => by
    obtain ⟨cf, k2, i2, f, cell2, w1, w2, w3, w4, w5, -⟩ := vk_OFof (A := fun _ => False) q1 hev (fun _ _ h => h)
    obtain ⟨cf', k', i', f', w1', w6⟩ := hsl
    rw [w1] at w1'
    cases w1'
    subst w6
    exact ⟨cell2, w3, w4, w5⟩
  subst hs
  refine ⟨a, vk_R.of (A := args) href q1, (Array.getElem?_eq_some_iff.mp q3).1, v, List.not_mem_nil, List.not_mem_nil, ⟨cell, q3, q5, hcl⟩, ?_, ?_, ⟨cv, v1, v2, v3, v4, v5, fun hf => absurd (Array.getElem?_eq_some_iff.mp v1).1 (Nat.not_lt.mpr hf)⟩, hb, hl⟩
  · exact ok (hSt.1 0 (by decide)) hv
  · exact ok (hSt.1 1 (by decide)) (va_eqt c2)

theorem cv_of (hs : zS G = s) (ha : zAg G = args) (hg : ∀ w ∈ flatC stC, w.before args s = true) (ht : ∀ w ∈ lw_tbl, w.before args s = true) (hK : va_K (zD G) classes [] s) : zCv G := by
  have lits := li_of (G := G) hs hg ht hK
  have hA : ∀ a : Nat, a < s.heap.size → ¬ zFr G a := fun a h z => by
    have z' : (zS G).heap.size ≤ a := z
    rw [hs] at z'
    omega
  have e1 : (Cond.eq (.static "java/lang/String" "COMPACT_STRINGS" "Z") (.int 1)).before args s = true := hg _ (by decide +kernel)
  have e2 : (Cond.isRef (.static "jdk/internal/util/Preconditions" "SIOOBE_FORMATTER" "Ljava/util/function/BiFunction;")).before args s = true := hg _ (by decide +kernel)
  have e3 : (Cond.arrayOf (.static "java/util/ArrayList" "DEFAULTCAPACITY_EMPTY_ELEMENTDATA" "[Ljava/lang/Object;") (.object "java/lang/Object")).before args s = true := hg _ (by decide +kernel)
  have e4 : (Cond.eq (.length (.static "java/util/ArrayList" "DEFAULTCAPACITY_EMPTY_ELEMENTDATA" "[Ljava/lang/Object;")) (.int 0)).before args s = true := hg _ (by decide +kernel)
  have e5 : (Cond.isRef (.mirror "[Ljava/lang/Object;")).before args s = true := hg _ (by decide +kernel)
  obtain ⟨mi, hmi⟩ := va_Mi.of e5
  obtain ⟨k, hk, ck, k1, k2, k3, k4, k5⟩ := st_arr (f := fun _ => .null) (N := 0) (by decide) e3 (va_eqt e4) (fun j hj => absurd hj (Nat.not_lt_zero _))
  have z1 : va_Z "java/lang/String" "COMPACT_STRINGS" "Z" (.int 1) (zFr G) s s.heap := va_Zof (ht _ (zt1 46 rfl)) (ht _ (zt1 4 rfl)) (va_eqt e1) hA
  have z2 : va_Zq "jdk/internal/util/Preconditions" "SIOOBE_FORMATTER" "Ljava/util/function/BiFunction;" (zFr G) s s.heap := va_Zqof (ht _ (zt2 109 rfl)) (ht _ (zt1 20 rfl)) e2 hA
  have z3 : va_Z "java/util/ArrayList" "DEFAULTCAPACITY_EMPTY_ELEMENTDATA" "[Ljava/lang/Object;" (.ref k) (zFr G) s s.heap := va_Zof (ht _ (zt1 175 rfl)) (ht _ (zt1 11 rfl)) hk hA
  subst hs
  subst ha
  refine ⟨⟨⟨⟨ht, hK⟩, z1, ?_, lits ("java/lang/StringLatin1", 151, "", []) List.mem_cons_self⟩, ⟨k, z3, (Array.getElem?_eq_some_iff.mp k1).1, ck, k1, k2, k3, k4, k5, fun hf => absurd (Array.getElem?_eq_some_iff.mp k1).1 (Nat.not_lt.mpr hf)⟩, mi, hmi⟩, fun q hq => lits q (List.mem_cons_of_mem _ hq)⟩
  rcases z2 with z2 | ⟨t, z2⟩
  · exact ⟨.null, zRf_null, z2⟩
  · exact ⟨.ref t, zRf_ref, z2⟩
end NH
theorem known_all {args : Array Value} {s : State} (ht : ∀ w ∈ lw_tbl, w.before args s = true) : ∃ D : va_G, va_K D classes [] s := by
  obtain ⟨c0, i0, k0⟩ := u_known (C := "NetDesk") (T := T_N) (N := 17) (n := 17) ht in_N (ht (.instantiable "NetDesk" 17) (zt1 29 rfl))
  obtain ⟨c1, i1, k1⟩ := u_known (C := "java/lang/StringBuilder") (T := T_Sb) (N := 4) (n := 4) ht in_Sb (ht (.instantiable "java/lang/StringBuilder" 4) (zt1 37 rfl))
  obtain ⟨c2, i2, k2⟩ := u_known (C := "NetDesk$Address") (T := T_Ad) (N := 4) (n := 4) ht in_Ad (ht (.instantiable "NetDesk$Address" 4) (zt1 70 rfl))
  obtain ⟨c3, i3, k3⟩ := u_known (C := "NetDesk$Answer") (T := T_An) (N := 7) (n := 7) ht in_An (ht (.instantiable "NetDesk$Answer" 7) (zt1 96 rfl))
  obtain ⟨c4, i4, k4⟩ := u_known (C := "NetDesk$Fields") (T := T_Fl) (N := 6) (n := 6) ht in_Fl (ht (.instantiable "NetDesk$Fields" 6) (zt1 98 rfl))
  obtain ⟨c5, i5, k5⟩ := u_known (C := "java/util/ArrayList") (T := T_Al) (N := 3) (n := 3) ht in_Al (ht (.instantiable "java/util/ArrayList" 3) (zt1 163 rfl))
  obtain ⟨c6, i6, k6⟩ := u_known (C := "NetDesk$Jar") (T := T_Jr) (N := 1) (n := 1) ht in_Jr (ht (.instantiable "NetDesk$Jar" 1) (zt1 189 rfl))
  obtain ⟨c7, i7, k7⟩ := u_known (C := "NetDesk$Keep") (T := T_Kp) (N := 1) (n := 1) ht in_Kp (ht (.instantiable "NetDesk$Keep" 1) (zt1 201 rfl))
  obtain ⟨c8, i8, k8⟩ := u_known (C := "java/lang/String") (T := T_St) (N := 4) (n := 4) ht in_St (ht (.instantiable "java/lang/String" 4) (zt2 187 rfl))
  obtain ⟨c9, i9, k9⟩ := u_known (C := "NetDesk$Path") (T := T_Pt) (N := 2) (n := 2) ht in_Pt (ht (.instantiable "NetDesk$Path" 2) (zt3 139 rfl))
  obtain ⟨c10, i10, k10⟩ := u_known (C := "NetDesk$ServerText") (T := T_Sv) (N := 4) (n := 4) ht in_Sv (ht (.instantiable "NetDesk$ServerText" 4) (zt4 18 rfl))
  obtain ⟨c11, i11, k11⟩ := u_known (C := "NetDesk$Cookie") (T := T_Ck) (N := 3) (n := 3) ht in_Ck (ht (.instantiable "NetDesk$Cookie" 3) (zt4 205 rfl))
  obtain ⟨c12, i12, k12⟩ := u_known (C := "NetDesk$Kept") (T := T_Kt) (N := 2) (n := 2) ht in_Kt (ht (.instantiable "NetDesk$Kept" 2) (zt4 230 rfl))
  obtain ⟨c13, i13, k13⟩ := u_known (C := "NetDeskModel") (T := T_Mo) (N := 51) (n := 51) ht in_Mo (ht (.instantiable "NetDeskModel" 51) (zt5 61 rfl))
  refine ⟨(fun k => match k with | 0 => c0 | 1 => c1 | 2 => c2 | 3 => c3 | 4 => c4 | 5 => c5 | 6 => c6 | 7 => c7 | 8 => c8 | 9 => c9 | 10 => c10 | 11 => c11 | 12 => c12 | 13 => c13 | _ => c0, fun k => match k with | 0 => i0 | 1 => i1 | 2 => i2 | 3 => i3 | 4 => i4 | 5 => i5 | 6 => i6 | 7 => i7 | 8 => i8 | 9 => i9 | 10 => i10 | 11 => i11 | 12 => i12 | 13 => i13 | _ => i0), fun k q hq => ?_, fun k q h => by simp at h⟩
  match k, hq with
  | 0, hq => cases hq; exact k0
  | 1, hq => cases hq; exact k1
  | 2, hq => cases hq; exact k2
  | 3, hq => cases hq; exact k3
  | 4, hq => cases hq; exact k4
  | 5, hq => cases hq; exact k5
  | 6, hq => cases hq; exact k6
  | 7, hq => cases hq; exact k7
  | 8, hq => cases hq; exact k8
  | 9, hq => cases hq; exact k9
  | 10, hq => cases hq; exact k10
  | 11, hq => cases hq; exact k11
  | 12, hq => cases hq; exact k12
  | 13, hq => cases hq; exact k13
  | k + 14, hq => simp [classes] at hq
