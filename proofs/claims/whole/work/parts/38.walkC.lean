/-! ===== Net: walkFrom ===== -/
def wNx (N : Nat) (mk : Nat → Nat → Nat) (s : wSt) : wSt := match wStep N mk s with
  | .inr s' => s'
  | .inl _ => s
def wSeq (N : Nat) (mk : Nat → Nat → Nat) (s0 : wSt) : Nat → wSt
  | 0 => s0
  | i + 1 => wNx N mk (wSeq N mk s0 i)
/-- the walk from door d goes n times on, and ends with e -/
def wRes (N : Nat) (mk : Nat → Nat → Nat) (d n : Nat) (e : wEnd) : Prop := d < N ∧ isWalk N mk (wSeq N mk (d, N - 1 - d, 0, 2)) n ∧ wStep N mk (wSeq N mk (d, N - 1 - d, 0, 2) n) = .inl e ∧ n < N * N
theorem walk_ends {N : Nat} {mk : Nat → Nat → Nat} (hok : mkOk N mk) {d : Nat} (hd : d < N) (hdoor : tDoor mk d (N - 1 - d) 0 2 = true) : ∃ n e, wRes N mk d n e := by
  have h0 : wOk1 N mk (d, N - 1 - d, 0, 2) := ⟨Or.inl ⟨rfl, by show d + (N - 1 - d) + 1 ≤ N; omega⟩, by show 2 < 3; omega, hdoor⟩
  have hex : ∃ n, ∃ e, wStep N mk (wSeq N mk (d, N - 1 - d, 0, 2) n) = .inl e := by
    apply Classical.byContradiction
    intro hn
    have hw : isWalk N mk (wSeq N mk (d, N - 1 - d, 0, 2)) (N * N) := by
      refine ⟨h0, fun i _ => ?_⟩
      show _ = Sum.inr (wNx N mk (wSeq N mk (d, N - 1 - d, 0, 2) i))
      unfold wNx
      cases hs : wStep N mk (wSeq N mk (d, N - 1 - d, 0, 2) i) with
      | inl e => exact absurd ⟨i, e, hs⟩ hn
      | inr s' => rfl
    exact absurd (walk_short hok hw (by omega) rfl hd) (Nat.lt_irrefl _)
  obtain ⟨n, ⟨e, he⟩, hmin⟩ := pk_least _ hex
  have hw : isWalk N mk (wSeq N mk (d, N - 1 - d, 0, 2)) n := by
    refine ⟨h0, fun i hi => ?_⟩
    show _ = Sum.inr (wNx N mk (wSeq N mk (d, N - 1 - d, 0, 2) i))
    unfold wNx
    cases hs : wStep N mk (wSeq N mk (d, N - 1 - d, 0, 2) i) with
    | inl e => exact absurd ⟨e, hs⟩ (hmin i hi)
    | inr s' => rfl
  exact ⟨n, e, hd, hw, he, walk_short hok hw (by omega) rfl hd⟩
theorem c_other (l : Launch) (N : Nat) (mk : Nat → Nat → Nat) (ma : Nat → Int32) (sz wk ob : Int32) (hB : TB N mk ma sz) (x y k s : Nat) (hT : isT N x y k) (hs : s < 3) (v : Int32) (hv : v = nI s) : Ev l zX2_otherDoor [.inr (6, 0), vI v] (ntH ma sz wk (nI x) (nI y) (nI k) ob) (fun r h' => r = some (vI (oI (oth mk x y k s))) ∧ h' = ntH ma sz wk (nI x) (nI y) (nI k) ob) := by
  subst hv
  have hok := hB.2.2.1
  obtain ⟨r1, r2⟩ := rem3 s hs
  have l0 := cm_le hok hT s
  have l1 := cm_le hok hT ((s + 1) % 3)
  refine ev_run okX2_otherDoor (by decide +kernel) (Nat.le_of_ble_eq_true rfl) 60 ?_
  refine ⟨[6, 7], _, c_corner l N mk ma sz wk (nI x) (nI y) (nI k) ob hB x y k s hT hs _ _ _ _ rfl rfl rfl rfl, fun r hc' hP _ => ?_⟩
  obtain ⟨rfl, rfl⟩ := hP
  have ez : nI (cm mk x y k s) = 0 ↔ cm mk x y k s = 0 := nI_eq (b := 0) (by omega) (by omega)
  have eo : nI (cm mk x y k s) = 1 ↔ cm mk x y k s = 1 := nI_eq (b := 1) (by omega) (by omega)
  have two : ∀ K : Prop, True → True := fun _ h => h
  have hgo : ¬ cm mk x y k s = 2 → (∀ p : Nat, p < 3 → (oth mk x y k s = some p) → some (vI (nI p)) = some (vI (oI (oth mk x y k s)))) := fun _ p _ e => by rw [e]; rfl
  have fin : ¬ cm mk x y k s = 2 → (cm mk x y k ((s + 1) % 3) = cm mk x y k s → oth mk x y k s = some ((s + 1) % 3)) ∧ (¬ cm mk x y k ((s + 1) % 3) = cm mk x y k s → oth mk x y k s = some ((s + 2) % 3)) := by
    intro h2
    unfold oth
    rw [if_neg h2]
    exact ⟨fun q => if_pos q, fun q => if_neg q⟩
  refine And.intro (fun h1 => ?_) (fun h1 => And.intro (fun h2 => ?_) (fun h2 => ?_))
  · have h1 := ez.mp h1
    refine And.intro (by decide) ?_
    refine ⟨[6, 7], _, c_corner l N mk ma sz wk (nI x) (nI y) (nI k) ob hB x y k ((s + 1) % 3) hT (Nat.mod_lt _ (by omega)) _ _ _ _ rfl rfl rfl r1, fun r hc' hP _ => ?_⟩
    obtain ⟨rfl, rfl⟩ := hP
    have hf := fin (by omega)
    refine And.intro (fun q => ?_) (fun q => ?_)
    · have q : ¬ cm mk x y k ((s + 1) % 3) = cm mk x y k s := fun w => q ((nI_eq (by omega) (by omega)).mpr w)
      refine And.intro (by decide) (And.intro ⟨?_, rfl⟩ rfl)
      rw [hf.2 q]
      show some (vI (nI s + 2 - (nI s + 2) / 3 * 3)) = _
      rw [r2]
      rfl
    · have q : cm mk x y k ((s + 1) % 3) = cm mk x y k s := (nI_eq (by omega) (by omega)).mp q
      refine And.intro ⟨?_, rfl⟩ rfl
      rw [hf.1 q]
      show some (vI (nI s + 1 - (nI s + 1) / 3 * 3)) = _
      rw [r1]
      rfl
  · have h2 := eo.mp h2
    refine And.intro (by decide) ?_
    refine ⟨[6, 7], _, c_corner l N mk ma sz wk (nI x) (nI y) (nI k) ob hB x y k ((s + 1) % 3) hT (Nat.mod_lt _ (by omega)) _ _ _ _ rfl rfl rfl r1, fun r hc' hP _ => ?_⟩
    obtain ⟨rfl, rfl⟩ := hP
    have hf := fin (by omega)
    refine And.intro (fun q => ?_) (fun q => ?_)
    · have q : ¬ cm mk x y k ((s + 1) % 3) = cm mk x y k s := fun w => q ((nI_eq (by omega) (by omega)).mpr w)
      refine And.intro (by decide) (And.intro ⟨?_, rfl⟩ rfl)
      rw [hf.2 q]
      show some (vI (nI s + 2 - (nI s + 2) / 3 * 3)) = _
      rw [r2]
      rfl
    · have q : cm mk x y k ((s + 1) % 3) = cm mk x y k s := (nI_eq (by omega) (by omega)).mp q
      refine And.intro ⟨?_, rfl⟩ rfl
      rw [hf.1 q]
      show some (vI (nI s + 1 - (nI s + 1) / 3 * 3)) = _
      rw [r1]
      rfl
  · have h1 : ¬ cm mk x y k s = 0 := fun w => h1 (ez.mpr w)
    have h2 : ¬ cm mk x y k s = 1 := fun w => h2 (eo.mpr w)
    refine And.intro ⟨?_, rfl⟩ rfl
    have e : oth mk x y k s = none := by
      unfold oth
      rw [if_pos (by omega)]
    rw [e]
    rfl
