/-! ===== the reference: doors ===== -/
theorem m_doors (l : Launch) (N : Nat) (mk : Nat → Nat → Nat) (w : Option wEnd) (nk rm : Nat → Int32) (ln : Int32) (lg : Nat → Int64) (h : xH) (hH : MT N mk w nk rm ln lg h) : Ev l zX5_doors [.inr (40, 0)] h (fun r h' => r = some (vI (nI (qDoors N mk))) ∧ MT N mk w nk rm ln lg h') := by
  obtain ⟨th, nt, ma, rfl, hB, hW⟩ := hH
  obtain ⟨hN1, h20, hok, hsz, hma⟩ := id hB
  have hend : MT N mk w nk rm ln lg (mtH 0 nk nt rm ln lg ma) := ⟨0, nt, ma, rfl, hB, hW⟩
  refine ev_all okX5_doors (by decide +kernel) (Nat.le_of_ble_eq_true rfl) ?_
  intro K hK
  have loop : ∀ (e d : Nat), d + e = N → ∀ S y : Int32, S = nI (sm (fun d => c1 (tDoor mk d (N - 1 - d) 0 2)) d) → y = nI d → K 9 [(0, .inr (40, 0)), (1, vI S), (2, vI y)] [] (mtH 0 nk nt rm ln lg ma) := by
    intro e
    induction e with
    | zero =>
      intro d hd S y hS hy
      have hd : d = N := hd
      subst hd; subst hy
      refine hK [] 40 9 _ _ _ ?_
      refine And.intro (fun _ => ?_) (fun q => absurd (by show nt 0 ≤ nI d; rw [hsz]; exact Int32.le_refl _) q)
      exact And.intro ⟨by rw [hS]; rfl, hend⟩ rfl
    | succ e ih =>
      intro d hd S y hS hy
      subst hy
      refine hK [(9, [0, 1, 2])] 40 9 _ _ _ ?_
      refine And.intro (fun q => absurd q (by show ¬ nt 0 ≤ nI d; rw [hsz]; exact nI_ge (by omega) (by omega))) (fun _ => ?_)
      have e1 : outD N mk (nI d) = tDoor mk d (N - 1 - d) 0 2 := by
        unfold outD
        rw [nI_toInt (by omega), decide_eq_true (by omega)]
        rfl
      refine ⟨[40, 46], _, m_isOuter l N mk 0 nk nt rm ln lg ma hB (nI d), fun r hc' hP _ => ?_⟩
      obtain ⟨rfl, rfl⟩ := hP
      rw [e1]
      refine And.intro (fun q => ih (d + 1) (by omega) _ _ ?_ (nI_1 d)) (fun q => ih (d + 1) (by omega) _ _ ?_ (nI_1 d))
      · show S + 0 = nI (_ + c1 _)
        rw [b2i0 q, hS, Int32.add_zero]
        rfl
      · show S + 1 = nI (_ + c1 _)
        rw [b2i1 q, hS, nI_1]
        rfl
  refine hK [(9, [0, 1, 2])] 40 0 _ _ _ ?_
  exact loop N 0 (by omega) 0 0 rfl rfl
