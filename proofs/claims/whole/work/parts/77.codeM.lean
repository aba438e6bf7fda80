set_option maxRecDepth 20000 in
theorem kLaw_eq : kLaw = kL0 ++ (kL1 ++ (kL2 ++ (kL3 ++ (kL4 ++ (kL5 ++ (kL6 ++ (kL7 ++ (kL8 ++ (kL9 ++ (kL10 ++ (kL11 ++ (kL12 ++ (kL13 ++ (kL14)))))))))))))) := rfl
set_option maxRecDepth 20000 in
theorem okLaw_link : x_link kLaw = true := by decide +kernel
theorem okLaw : y_okM mtL zLaw kLaw = true := by
  unfold y_okM
  rw [Bool.and_eq_true]
  refine ⟨?_, okLaw_link⟩
  rw [kLaw_eq]
  simp only [List.all_append, Bool.and_eq_true]
  exact ⟨okL0, ⟨okL1, ⟨okL2, ⟨okL3, ⟨okL4, ⟨okL5, ⟨okL6, ⟨okL7, ⟨okL8, ⟨okL9, ⟨okL10, ⟨okL11, ⟨okL12, ⟨okL13, okL14⟩⟩⟩⟩⟩⟩⟩⟩⟩⟩⟩⟩⟩⟩
