/-! ===== the reference: isOuter, doors ===== -/
theorem dr_sym (p q : Nat) : dr p q = dr q p := decide_eq_decide.mpr (by omega)
theorem m_isOuter (l : Launch) (N : Nat) (mk : Nat → Nat → Nat) (th : Int32) (nk nt rm : Nat → Int32) (ln : Int32) (lg : Nat → Int64) (ma : Nat → Int32) (hB : MTB N mk nt ma) (d : Int32) : Ev l zX5_isOuter [.inr (40, 0), vI d] (mtH th nk nt rm ln lg ma) (fun r h' => r = some (vI (b2i (outD N mk d))) ∧ h' = mtH th nk nt rm ln lg ma) := by
  obtain ⟨hN1, h20, hok, hsz, hma⟩ := hB
  have hT : (nt 0).toInt = (N : Int) := by rw [hsz]; exact nI_toInt (by omega)
  refine ev_run okX5_isOuter (by decide +kernel) (Nat.le_of_ble_eq_true rfl) 60 ?_
  refine And.intro (fun q => ?_) (fun q => And.intro (fun q2 => ?_) (fun q2 => ?_))
  · have q : d.toInt < 0 := lt_T.mp q
    have e : outD N mk d = false := by unfold outD; rw [decide_eq_false (by omega)]; rfl
    exact And.intro (Or.inl rfl) (And.intro ⟨by rw [e]; rfl, rfl⟩ rfl)
  · have q2 : (nt 0).toInt ≤ d.toInt := le_T.mp q2
    rw [hT] at q2
    have e : outD N mk d = false := by unfold outD; rw [decide_eq_false (by omega)]; rfl
    exact And.intro (Or.inl rfl) (And.intro ⟨by rw [e]; rfl, rfl⟩ rfl)
  · have q : ¬ d.toInt < 0 := fun w => q (lt_T.mpr w)
    have q2 : ¬ (nt 0).toInt ≤ d.toInt := fun w => q2 (le_T.mpr w)
    rw [hT] at q2
    obtain ⟨j, hj, rfl, hjt⟩ := nI_arg (x := d) (by omega)
    have e : outD N mk (nI j) = dr (mk j (N - j)) (mk (j + 1) (N - 1 - j)) := by
      unfold outD
      rw [decide_eq_true (by omega), hjt, dr_sym]
      show dr (mk (j + 1) (N - 1 - j)) (mk j (N - 1 - j + 1)) = _
      rw [show N - 1 - j + 1 = N - j by omega]
    rw [e]
    have l1 := (hok j (N - j) (by omega)).1
    have l2 := (hok (j + 1) (N - 1 - j) (by omega)).1
    refine ⟨[40, 46], _, m_markOf l N mk th nk nt rm ln lg ma h20 hma j (N - j) (by omega) _ _ rfl (by show nt 0 - nI j = _; rw [hsz, pk_sub (by omega)]), fun r hc' hP _ => ?_⟩
    obtain ⟨rfl, rfl⟩ := hP
    refine ⟨[40, 46], _, m_markOf l N mk th nk nt rm ln lg ma h20 hma (j + 1) (N - 1 - j) (by omega) _ _ (nI_1 j) (by
      show nt 0 - nI j - 1 = _
      rw [hsz, pk_sub (by omega), show (1 : Int32) = nI 1 from rfl, pk_sub (by omega)]
      congr 1
      omega), fun r hc' hP _ => ?_⟩
    obtain ⟨rfl, rfl⟩ := hP
    refine ⟨[], _, m_isDoor l (mk j (N - j)) (mk (j + 1) (N - 1 - j)) l1 l2 _ _ rfl rfl, fun r hc' hP _ => ?_⟩
    obtain ⟨rfl, rfl⟩ := hP
    refine And.intro (fun w => ?_) (fun w => ?_)
    · exact And.intro (Or.inl rfl) (And.intro ⟨by rw [b2i0 w]; rfl, rfl⟩ rfl)
    · exact And.intro (Or.inr rfl) (And.intro ⟨by rw [b2i1 w]; rfl, rfl⟩ rfl)
