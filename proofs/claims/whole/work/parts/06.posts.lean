/-- the ends that contracts have -/
def zPv (P : Heap → Prop) : Option Value → Heap → Prop := fun v H => v = none ∧ P H
def zPi (P : Int32 → Heap → Prop) : Option Value → Heap → Prop := fun v H => ∃ r : Int32, v = some (.int r) ∧ P r H
def zPr (P : Value → Heap → Prop) : Option Value → Heap → Prop := fun v H => ∃ r : Value, v = some r ∧ zRf r ∧ P r H
section ZK
variable {G : zG} {d : Nat} {M : zMd} {pc : Nat} {lv : List (Option Value)} {rest : List Value} {H : Heap} {Q : Option Value → Heap → Prop}
theorem zPv_k {P : Heap → Prop} (kk : ∀ H1 : Heap, P H1 → zOk G H1 → H.size ≤ H1.size → zT H ≤ zT H1 → zW G d M pc lv rest H1 Q) : ∀ v H1, zPv P v H1 → zOk G H1 → H.size ≤ H1.size → zT H ≤ zT H1 → zW G d M pc lv (v.toList ++ rest) H1 Q := by
  rintro v H1 ⟨rfl, h⟩ h2 h3 h4
  exact kk H1 h h2 h3 h4
theorem zPi_k {P : Int32 → Heap → Prop} (kk : ∀ (r : Int32) (H1 : Heap), P r H1 → zOk G H1 → H.size ≤ H1.size → zT H ≤ zT H1 → zW G d M pc lv (.int r :: rest) H1 Q) : ∀ v H1, zPi P v H1 → zOk G H1 → H.size ≤ H1.size → zT H ≤ zT H1 → zW G d M pc lv (v.toList ++ rest) H1 Q := by
  rintro v H1 ⟨r, rfl, h⟩ h2 h3 h4
  exact kk r H1 h h2 h3 h4
theorem zPr_k {P : Value → Heap → Prop} (kk : ∀ (r : Value) (H1 : Heap), zRf r → P r H1 → zOk G H1 → H.size ≤ H1.size → zT H ≤ zT H1 → zW G d M pc lv (r :: rest) H1 Q) : ∀ v H1, zPr P v H1 → zOk G H1 → H.size ≤ H1.size → zT H ≤ zT H1 → zW G d M pc lv (v.toList ++ rest) H1 Q := by
  rintro v H1 ⟨r, rfl, hr, h⟩ h2 h3 h4
  exact kk r H1 hr h h2 h3 h4
end ZK
theorem zNarO {v : Value} {n : String} (h : zRf v) : narrow (.object n) v = v := by rcases h with rfl | ⟨a, rfl⟩ <;> rfl
theorem zNarA {v : Value} {t : FieldType} (h : zRf v) : narrow (.array t) v = v := by rcases h with rfl | ⟨a, rfl⟩ <;> rfl
theorem zFitO {v : Value} {n : String} (h : zRf v) : fits (.object n) v = true := by rcases h with rfl | ⟨a, rfl⟩ <;> rfl
theorem zFitA {v : Value} {t : FieldType} (h : zRf v) : fits (.array t) v = true := by rcases h with rfl | ⟨a, rfl⟩ <;> rfl
