/-! ===== the reference: ended ===== -/
theorem m_ended (l : Launch) (N : Nat) (mk : Nat → Nat → Nat) (w : Option wEnd) (nk rm : Nat → Int32) (ln : Int32) (lg : Nat → Int64) (h : xH) (hH : MT N mk w nk rm ln lg h) (k : Int32) : Ev l zX5_ended [.inr (40, 0), vI k] h (fun r h' => r = some (vI (qEnded w k)) ∧ MT N mk w nk rm ln lg h') := by
  obtain ⟨th, nt, ma, rfl, hB, hW⟩ := hH
  have hend : MT N mk w nk rm ln lg (mtH 0 nk nt rm ln lg ma) := ⟨0, nt, ma, rfl, hB, hW⟩
  refine ev_run okX5_ended (by decide +kernel) (Nat.le_of_ble_eq_true rfl) 60 ?_
  cases w with
  | none =>
    have hW : nt 4 = 0 := hW
    refine And.intro (fun q => absurd hW q) (fun _ => ?_)
    exact And.intro ⟨rfl, hend⟩ rfl
  | some e =>
    obtain ⟨x, y, t, o⟩ := e
    obtain ⟨w1, w2, w3, w4, w5, w6⟩ := id hW
    refine And.intro (fun _ => ?_) (fun q => absurd (w1.symm.trans q) (by decide))
    refine And.intro (And.intro (fun h0 => ?_) (And.intro (fun h1 => ?_) (And.intro (fun h2 => ?_) (And.intro (fun h3 => ?_) (And.intro (fun h4 => ?_) trivial))))) (fun hd => ?_)
    · have h0 : k.toInt = 0 := h0
      refine And.intro ⟨?_, hend⟩ rfl
      show some (vI (nt 5)) = some (vI (qE5 x y t o k))
      unfold qE5
      rw [if_pos h0, w2]
    · have h1 : k.toInt = 1 := h1
      refine And.intro ⟨?_, hend⟩ rfl
      show some (vI (nt 6)) = some (vI (qE5 x y t o k))
      unfold qE5
      rw [if_neg (by omega), if_pos h1, w3]
    · have h2 : k.toInt = 2 := h2
      refine And.intro ⟨?_, hend⟩ rfl
      show some (vI (nt 7)) = some (vI (qE5 x y t o k))
      unfold qE5
      rw [if_neg (by omega), if_neg (by omega), if_pos h2, w4]
    · have h3 : k.toInt = 3 := h3
      refine And.intro ⟨?_, hend⟩ rfl
      show some (vI (nt 8)) = some (vI (qE5 x y t o k))
      unfold qE5
      rw [if_neg (by omega), if_neg (by omega), if_neg (by omega), if_pos h3, w5]
    · have h4 : k.toInt = 4 := h4
      refine And.intro ⟨?_, hend⟩ rfl
      show some (vI (nt 9)) = some (vI (qE5 x y t o k))
      unfold qE5
      rw [if_neg (by omega), if_neg (by omega), if_neg (by omega), if_neg (by omega), if_pos h4, w6]
    · have hd : k.toInt < 0 ∨ (5 : Int) - 1 < k.toInt := hd
      refine And.intro ⟨?_, hend⟩ rfl
      show _ = some (vI (qE5 x y t o k))
      unfold qE5
      rw [if_neg (by omega), if_neg (by omega), if_neg (by omega), if_neg (by omega), if_neg (by omega)]
