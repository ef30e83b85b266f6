/-- a String at a with the (Latin-1) text t; it and its bytes lie outside L, the cells that may change -/
def zTx (G : zG) (L : List Nat) (H : Heap) (a : Nat) (t : List Nat) : Prop := ∃ v : Nat, a ∉ L ∧ v ∉ L ∧ zIs G H a 8 ∧ zFd G H a 8 0 (.ref v) ∧ zFd G H a 8 1 (.int 0) ∧ zArr G H v .byte t.length (fun j => .int (sb_b (t.getD j 0))) ∧ (∀ c ∈ t, c < 256) ∧ t.length ≤ 65536
theorem zTx.mo {G : zG} {L S : List Nat} {H H1 : Heap} {a : Nat} {t : List Nat} (h : zTx G L H a t) (m : zMo S H H1) (hS : ∀ q ∈ S, q ∈ L ∨ H.size ≤ q) : zTx G L H1 a t := by
  obtain ⟨v, h1, h2, h3, h4, h5, h6, h7⟩ := h
  have ha : a ∉ S := fun z => (hS a z).elim h1 (fun w => by have := h3.lt; omega)
  have hv : v ∉ S := fun z => (hS v z).elim h2 (fun w => by have := h6.lt; omega)
  exact ⟨v, h1, h2, h3.mo m ha, h4.mo m ha, h5.mo m ha, h6.mo m hv, h7⟩
theorem zTx.ex {G : zG} {L : List Nat} {H H1 : Heap} {a : Nat} {t : List Nat} (h : zTx G L H a t) (m : zMo [] H H1) : zTx G L H1 a t := h.mo m (fun q z => by cases z)
theorem zTx.li {G : zG} {L L2 : List Nat} {H : Heap} {a : Nat} {t : List Nat} (h : zTx G L H a t) (hL : ∀ q ∈ L2, q ∈ L ∨ H.size ≤ q) : zTx G L2 H a t := by
  obtain ⟨v, h1, h2, h3, h4, h5, h6, h7⟩ := h
  exact ⟨v, fun z => (hL a z).elim h1 (fun w => by have := h3.lt; omega), fun z => (hL v z).elim h2 (fun w => by have := h6.lt; omega), h3, h4, h5, h6, h7⟩
theorem zTx.lt {G : zG} {L : List Nat} {H : Heap} {a : Nat} {t : List Nat} (h : zTx G L H a t) : a < H.size := h.choose_spec.2.2.1.lt
theorem zTx.is {G : zG} {L : List Nat} {H : Heap} {a : Nat} {t : List Nat} (h : zTx G L H a t) : zIs G H a 8 := h.choose_spec.2.2.1
theorem zTx.le {G : zG} {L : List Nat} {H : Heap} {a : Nat} {t : List Nat} (h : zTx G L H a t) : t.length ≤ 65536 := h.choose_spec.2.2.2.2.2.2.2
theorem zTx.b {G : zG} {L : List Nat} {H : Heap} {a : Nat} {t : List Nat} (h : zTx G L H a t) : ∀ c ∈ t, c < 256 := h.choose_spec.2.2.2.2.2.2.1
/-- what the start gives of the JDK's statics -/
def zCs (G : zG) : Prop := zGo G ∧ va_Z "java/lang/String" "COMPACT_STRINGS" "Z" (.int 1) (zFr G) (zS G) (zS G).heap ∧ (∃ v : Value, zRf v ∧ va_Z "jdk/internal/util/Preconditions" "SIOOBE_FORMATTER" "Ljava/util/function/BiFunction;" v (zFr G) (zS G) (zS G).heap) ∧ (∃ a : Nat, vk_R "java/lang/StringLatin1" 151 "" a (zS G) ∧ a < (zS G).heap.size ∧ zTx G [] (zS G).heap a [])
/-- a reader's end: an int, and the heap as it was -/
abbrev zRd (H : Heap) (v : Int32) : Option Value → Heap → Prop := zPi (fun r H1 => r = v ∧ H1 = H)
section JT
variable {G : zG} {d : Nat} {L : List Nat} {H : Heap} {a : Nat} {t : List Nat}
theorem zOk_base {q : Nat} (ho : zOk G H) (h : q < (zS G).heap.size) : H[q]? = (zS G).heap[q]? := ho.2.1 q h
theorem c_St_coder (hC : zCs G) (hf : zFd G H a 8 1 (.int 0)) : zC G d M_St_coder [.ref a] H (zRd H 0) := by
  refine zC_in [some (.ref a)] pn_St_coder hC.1 rfl (Nat.le_of_ble_eq_true rfl) rfl (fun ho => ?_)
  exact sSt_coder_0 hC.2.1 (fun h => absurd h (by decide)) (fun _ => sSt_coder_6 hf rfl ⟨_, rfl, rfl, rfl⟩)
theorem c_St_isLatin1 (hC : zCs G) (hf : zFd G H a 8 1 (.int 0)) : zC G d M_St_isLatin1 [.ref a] H (zRd H 1) := by
  refine zC_in [some (.ref a)] pn_St_isLatin1 hC.1 rfl (Nat.le_of_ble_eq_true rfl) rfl (fun ho => ?_)
  exact sSt_isLatin1_0 hC.2.1 (fun h => absurd h (by decide)) (fun _ => sSt_isLatin1_6 hf (fun h => absurd rfl h) (fun _ => sSt_isLatin1_13 rfl ⟨_, rfl, rfl, rfl⟩))
theorem c_St_length (hC : zCs G) (hd : 1 ≤ d) (h : zTx G L H a t) : zC G d M_St_length [.ref a] H (zRd H (nI t.length)) := by
  obtain ⟨v, h1, h2, h3, h4, h5, h6, h7, h8⟩ := h
  refine zC_in [some (.ref a)] pn_St_length hC.1 rfl (Nat.le_of_ble_eq_true rfl) rfl (fun ho => ?_)
  refine sSt_length_0 h4 h6 hd (Nat.le_of_ble_eq_true rfl) h3 (c_St_coder hC h5) ?_
  rintro r H1 ⟨rfl, rfl⟩ - - -
  exact sSt_length_9 ⟨_, rfl, sb_shr0 _, rfl⟩
theorem c_St_isEmpty (hC : zCs G) (h : zTx G L H a t) : zC G d M_St_isEmpty [.ref a] H (zRd H (if t = [] then 1 else 0)) := by
  obtain ⟨v, h1, h2, h3, h4, h5, h6, h7, h8⟩ := h
  refine zC_in [some (.ref a)] pn_St_isEmpty hC.1 rfl (Nat.le_of_ble_eq_true rfl) rfl (fun ho => ?_)
  refine sSt_isEmpty_0 h4 h6 (fun e => ?_) (fun e => ?_)
  · refine sSt_isEmpty_12 rfl ⟨_, rfl, ?_, rfl⟩
    rw [if_neg (fun z => e (by rw [z]; rfl))]
  · refine sSt_isEmpty_8 rfl ⟨_, rfl, ?_, rfl⟩
    rw [if_pos]
    have := (nI_eq (a := t.length) (b := 0) (by omega) (by decide)).mp e
    exact List.length_eq_zero_iff.mp this
theorem c_Pc_checkIndex {v : Value} (hC : zCs G) (hv : zRf v) {i n : Nat} (hi : i < n) (hn : n < 2 ^ 31) : zC G d M_Pc_checkIndex [.int (nI i), .int (nI n), v] H (zRd H (nI i)) := by
  have hcat : ([.int (nI i), .int (nI n), v] : List Value).all (fun v => v.category == 1) = true := by
    rcases hv with rfl | ⟨b, rfl⟩ <;> rfl
  refine zC_in [some (.int (nI i)), some (.int (nI n)), some v] pn_Pc_checkIndex hC.1 hcat (Nat.le_of_ble_eq_true rfl) rfl (fun ho => ?_)
  refine sPc_checkIndex_0 (fun h => absurd h (nI_pos (by omega))) (fun _ => ?_)
  refine sPc_checkIndex_4 (fun h => ?_) (fun h => absurd (nI_lt hi hn) h)
  exact sPc_checkIndex_16 ⟨_, rfl, rfl, rfl⟩
end JT
