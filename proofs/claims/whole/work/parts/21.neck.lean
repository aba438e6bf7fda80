abbrev nkO (bd se fw rc : Int32) : Nat × xC := (1, .inr (1, [.inr (2, 0), .inr (3, 0), .inr (4, 0), .inr (5, 0), vI bd, vI se, vI fw, vI rc]))
abbrev nkH (ah en ow fr : Nat → Int32) (bd se fw rc : Int32) : xH := [nkO bd se fw rc, (2, .inl (0, 25, 0, .inl ah)), (3, .inl (0, 26, 0, .inl en)), (4, .inl (0, 26, 0, .inl ow)), (5, .inl (0, 24, 0, .inl fr))]
theorem c_isSort (l : Launch) (k : Int32) : Ev l zX1_isSort [vI k] [] (fun r h => r = some (vI (b2i (decide (0 ≤ k.toInt ∧ k.toInt < 4)))) ∧ h = []) := by
  refine ev_run okX1_isSort (by decide +kernel) (Nat.le_of_ble_eq_true rfl) 50 ?_
  refine And.intro (fun h1 => ?_) (fun h1 => And.intro (fun h2 => ?_) (fun h2 => ?_))
  · refine And.intro (Or.inl rfl) ⟨⟨?_, rfl⟩, rfl⟩
    rw [Int32.lt_iff_toInt_lt] at h1
    have h1 : k.toInt < 0 := h1
    rw [decide_eq_false (by omega)]
    rfl
  · refine And.intro (Or.inl rfl) ⟨⟨?_, rfl⟩, rfl⟩
    sorry
  · refine And.intro (Or.inr rfl) ⟨⟨?_, rfl⟩, rfl⟩
    sorry
theorem c_string (l : Launch) (ah en ow fr : Nat → Int32) (bd se fw rc k : Int32) (hb : 0 ≤ bd) (hb2 : bd ≤ 24) : Ev l zX1_string [.inr (1, 0), vI k] (nkH ah en ow fr bd se fw rc) (fun r h => (¬ (0 ≤ k.toInt ∧ k.toInt < 4) ∨ bd = 24) ∧ r = some (vI (-1)) ∧ h = nkH ah en ow fr bd se fw rc ∨ (0 ≤ k.toInt ∧ k.toInt < 4) ∧ bd ≠ 24 ∧ r = some (vI (bd + 1)) ∧ h = nkH (upd ah (bd + 1).toNatClampNeg (ah bd.toNatClampNeg + (1 <<< ((8 * k) &&& 31)))) en ow fr (bd + 1) 0 fw rc) := by
  refine ev_run okX1_string (by decide +kernel) (Nat.le_of_ble_eq_true rfl) 100 ?_
  refine ⟨[], _, c_isSort l k, fun r hc' hP _ => ?_⟩
  obtain ⟨rfl, rfl⟩ := hP
  refine And.intro (fun h1 => ?_) (fun h1 => And.intro (fun h2 => ?_) (fun h2 => ?_))
  all_goals sorry
