/-! The law from its entry. -/
section NI
variable {G : zG} {d L b : Nat} {xs : Nat → Int32} {nm : String} {H : Heap}
theorem la_start (hC : zCv G) (hd : 14 ≤ d) (hsc : ∀ {H : Heap}, zOk G H → zArr G H b .int L (fun j => .int (xs j))) (hL : L ≤ 3072) (ho : zOk G H) (hB : H.size + 400000 ≤ zCp G) (hS : zT H + 3500000 ≤ zSp G) : zW G d (M_La nm) 0 [some (.ref b), none, none, none] [] H (fun v _ => v = some (.int 1)) := by
  refine sLa_law_0 (by omega) (by omega) (fun H1 h1 n1 => ?_)
  have z1 : H1.size = H.size + 1 := n1.1
  have t1 : zT H1 = zT H + 17 := n1.2.1
  have ok1 := n1.ok (by omega) (by omega) ho
  refine sLa_law_3 (by omega) (Nat.le_of_ble_eq_true rfl) (c_N_init hC (by omega) h1 (zFr_new ho) ⟨(by omega), (by omega)⟩) ?_
  rintro H2 ⟨K, R, M, k0, -, D2, -, r7, ph, mo2, us2⟩ ok2 hs2 -
  have u21 := us2.1
  have u22 := us2.2
  refine sLa_law_7 zRf_ref (by omega) (by omega) (fun H3 h3 n3 => ?_)
  have z3 : H3.size = H2.size + 1 := n3.1
  have t3 : zT H3 = zT H2 + 51 := n3.2.1
  refine sLa_law_11 (by omega) (Nat.le_of_ble_eq_true rfl) (c_Mo_init hC.1.1 (by omega) (zFr_new ok2) h3 ⟨(by omega), (by omega)⟩) ?_
  rintro H4 ⟨ad, μ, a50, hM, hrel, hmL, mo4, us4⟩ ok4 hs4 -
  have u41 := us4.1
  have u42 := us4.2
  refine sLa_law_15 zRf_ref ?_
  have hm : zMo (R 7) H2 H4 := by
    rw [r7]
    exact n3.mo.tr mo4 (fun q z => by cases z) (fun q z => Or.inr (by rw [List.mem_singleton.mp z]; exact Nat.le_refl _))
  have hrs : zRs 7 R (fun i => if i = 7 then mL ad else R i) H2 H4 := by
    refine ⟨fun i hi => if_neg hi, (fun q z => by rw [r7] at z; cases z), (fun q z => Or.inr ?_)⟩
    rcases hmL q z with w | ⟨w1, w2⟩
    · rw [w]; exact ⟨Nat.le_refl _, (by omega)⟩
    · exact ⟨(by omega), w2⟩
  obtain ⟨f0, f1, f2, f3, f4, f5, f6, f7, f8, f9⟩ := D2.frame (c := 7) (by omega) hm hrs ok2 ok4
  have inv : zInv G K ad (H.size + 58) (zT H + 61460) 0 H4 := ⟨_, M, μ, _, _, _, _, ⟨f0, f1, f2 (by decide), f3 (by decide), f4 (by decide), f5 (by decide), f6 (by decide), f7 (by decide), f8 (by decide), f9⟩, if_pos rfl, hM, hrel, zSk_0, by simp only [List.length_nil]; omega, by simp only [List.length_nil]; omega⟩
  have := la_loop (nm := nm) (K := K) (ad := ad) hC hd hsc hL (B := H.size + 58) (S := zT H + 61460) (by omega) (by omega) L 0 H4 (by omega) (by omega) ok4 inv
  rw [k0, a50] at this
  exact this
end NI
