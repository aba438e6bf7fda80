/-! ===== the reference: isAll, isOuter ===== -/
theorem full_perm (mk : Nat → Nat → Nat) (a b k : Nat) (hk : k = 0 ∨ k = 1) : tFull mk a b k = decide (cm mk a b k 2 ≠ mk (a + 1) b ∧ mk (a + 1) b ≠ mk a (b + 1) ∧ cm mk a b k 2 ≠ mk a (b + 1)) := by
  unfold tFull
  apply decide_eq_decide.mpr
  rcases hk with rfl | rfl
  · have e0 : cm mk a b 0 0 = mk (a + 1) b := rfl
    have e1 : cm mk a b 0 1 = mk a (b + 1) := rfl
    rw [e0, e1]
    omega
  · have e0 : cm mk a b 1 0 = mk a (b + 1) := rfl
    have e1 : cm mk a b 1 1 = mk (a + 1) b := rfl
    rw [e0, e1]
    omega
theorem m_isAll (l : Launch) (N : Nat) (mk : Nat → Nat → Nat) (th : Int32) (nk nt rm : Nat → Int32) (ln : Int32) (lg : Nat → Int64) (ma : Nat → Int32) (hB : MTB N mk nt ma) (a b k : Nat) (hT : isT N a b k) (x y z : Int32) (hx : x = nI a) (hy : y = nI b) (hz : z = nI k) : Ev l zX5_isAll [.inr (40, 0), vI x, vI y, vI z] (mtH th nk nt rm ln lg ma) (fun r h' => r = some (vI (b2i (tFull mk a b k))) ∧ ∃ nt' : Nat → Int32, (∀ j, j ≠ 1 → j ≠ 2 → j ≠ 3 → nt' j = nt j) ∧ h' = mtH th nk nt' rm ln lg ma) := by
  obtain ⟨hN1, h20, hok, hsz, hma⟩ := hB
  have hab : a + b + 1 ≤ N := by rcases hT with ⟨_, q⟩ | ⟨_, q⟩ <;> omega
  have hk01 : k = 0 ∨ k = 1 := by rcases hT with ⟨q, _⟩ | ⟨q, _⟩ <;> omega
  have l2 := cm_le hok hT 2
  have l0 := (hok (a + 1) b (by omega)).1
  have l1 := (hok a (b + 1) (by omega)).1
  refine ev_run okX5_isAll (by decide +kernel) (Nat.le_of_ble_eq_true rfl) 60 ?_
  refine ⟨[40, 46], _, m_thirdIs l N mk th nk nt rm ln lg ma h20 hma a b k hT _ _ _ hx hy hz, fun r hc' hP _ => ?_⟩
  obtain ⟨rfl, nt', n1, n2, n3, n4, rfl⟩ := hP
  rw [full_perm mk a b k hk01]
  have E : ∀ {p q : Nat}, p ≤ 2 → q ≤ 2 → (nI p = nI q ↔ p = q) := fun {p q} hp hq => nI_eq (by omega) (by omega)
  refine And.intro (fun h1 => ?_) (fun h1 => And.intro (fun h2 => ?_) (fun h2 => And.intro (fun h3 => ?_) (fun h3 => ?_)))
  · have h1 : nt' 1 = nt' 2 := h1
    rw [n2, n3, E l2 l0] at h1
    refine And.intro (Or.inl rfl) (And.intro ⟨?_, nt', n1, rfl⟩ rfl)
    rw [decide_eq_false (by omega)]
    rfl
  · have h2 : nt' 2 = nt' 3 := h2
    rw [n3, n4, E l0 l1] at h2
    refine And.intro (Or.inl rfl) (And.intro ⟨?_, nt', n1, rfl⟩ rfl)
    rw [decide_eq_false (by omega)]
    rfl
  · have h3 : nt' 1 = nt' 3 := h3
    rw [n2, n4, E l2 l1] at h3
    refine And.intro (Or.inl rfl) (And.intro ⟨?_, nt', n1, rfl⟩ rfl)
    rw [decide_eq_false (by omega)]
    rfl
  · have h1 : ¬ nt' 1 = nt' 2 := h1
    have h2 : ¬ nt' 2 = nt' 3 := h2
    have h3 : ¬ nt' 1 = nt' 3 := h3
    rw [n2, n3, E l2 l0] at h1
    rw [n3, n4, E l0 l1] at h2
    rw [n2, n4, E l2 l1] at h3
    refine And.intro (Or.inr rfl) (And.intro ⟨?_, nt', n1, rfl⟩ rfl)
    rw [decide_eq_true (by omega)]
    rfl
