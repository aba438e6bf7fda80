/-! ===== Net: the walk ===== -/
def oA (o : Option Nat) : Int32 := match o with
  | none => 1
  | some _ => 0
def qE5 (x y t : Nat) (o : Option Nat) (k : Int32) : Int32 := if k.toInt = 0 then oA o else if k.toInt = 1 then nI x else if k.toInt = 2 then nI y else if k.toInt = 3 then nI t else if k.toInt = 4 then oI o else -1
def qEnded (w : Option wEnd) (k : Int32) : Int32 := match w with
  | none => -1
  | some (x, y, t, o) => qE5 x y t o k
/-- the end of a walk lies in the net -/
def wOk (N : Nat) (w : Option wEnd) : Prop := match w with
  | none => True
  | some (_, _, _, o) => match o with
    | none => True
    | some d => d < N
theorem c_walkEnd (l : Launch) (N : Nat) (mk : Nat → Nat → Nat) (w : Option wEnd) (hw : wOk N w) (h : xH) (hH : TH N mk w h) (k : Int32) : Ev l zX2_walkEnd [.inr (6, 0), vI k] h (fun r h' => r = some (vI (qEnded w k)) ∧ h' = h) := by
  obtain ⟨ma, sz, wk, ax, ay, ak, ob, rfl, hB, hW⟩ := hH
  have h20 := hB.2.1
  refine ev_run okX2_walkEnd (by decide +kernel) (Nat.le_of_ble_eq_true rfl) 60 ?_
  cases w with
  | none =>
    have hW : wk = 0 := hW
    refine And.intro (fun q => absurd hW q) (fun _ => ?_)
    exact And.intro ⟨rfl, rfl⟩ rfl
  | some e =>
    obtain ⟨x, y, t, o⟩ := e
    obtain ⟨w1, w2, w3, w4, w5⟩ := hW
    refine And.intro (fun _ => ?_) (fun q => absurd (w1.symm.trans q) (by decide))
    refine And.intro (And.intro (fun h0 => ?_) (And.intro (fun h1 => ?_) (And.intro (fun h2 => ?_) (And.intro (fun h3 => ?_) (And.intro (fun h4 => ?_) trivial))))) (fun hd => ?_)
    · have h0 : k.toInt = 0 := h0
      have hq : qEnded (some (x, y, t, o)) k = oA o := by
        show qE5 x y t o k = _
        unfold qE5
        rw [if_pos h0]
      rw [hq]
      cases o with
      | none =>
        have w5 : ob = -1 := w5
        refine And.intro (fun q => absurd w5 q) (fun _ => ?_)
        exact And.intro ⟨rfl, rfl⟩ rfl
      | some d =>
        have w5 : ob = nI d := w5
        have hd : d < N := hw
        refine And.intro (fun _ => ?_) (fun q => ?_)
        · exact And.intro ⟨rfl, rfl⟩ rfl
        · exfalso
          have q : ob = -1 := q
          rw [w5] at q
          have := congrArg Int32.toInt q
          rw [nI_toInt (by omega)] at this
          have e1 : (-1 : Int32).toInt = -1 := by decide
          omega
    · have h1 : k.toInt = 1 := h1
      refine And.intro ⟨?_, rfl⟩ rfl
      show _ = some (vI (qE5 x y t o k))
      unfold qE5
      rw [if_neg (by omega), if_pos h1]
      show some (vI ax) = _
      rw [w2]
    · have h2 : k.toInt = 2 := h2
      refine And.intro ⟨?_, rfl⟩ rfl
      show _ = some (vI (qE5 x y t o k))
      unfold qE5
      rw [if_neg (by omega), if_neg (by omega), if_pos h2]
      show some (vI ay) = _
      rw [w3]
    · have h3 : k.toInt = 3 := h3
      refine And.intro ⟨?_, rfl⟩ rfl
      show _ = some (vI (qE5 x y t o k))
      unfold qE5
      rw [if_neg (by omega), if_neg (by omega), if_neg (by omega), if_pos h3]
      show some (vI ak) = _
      rw [w4]
    · have h4 : k.toInt = 4 := h4
      refine And.intro ⟨?_, rfl⟩ rfl
      show _ = some (vI (qE5 x y t o k))
      unfold qE5
      rw [if_neg (by omega), if_neg (by omega), if_neg (by omega), if_neg (by omega), if_pos h4]
      show some (vI ob) = _
      rw [w5]
    · have hd : k.toInt < 0 ∨ (5 : Int) - 1 < k.toInt := hd
      refine And.intro ⟨?_, rfl⟩ rfl
      show _ = some (vI (qE5 x y t o k))
      unfold qE5
      rw [if_neg (by omega), if_neg (by omega), if_neg (by omega), if_neg (by omega), if_neg (by omega)]
/-- the other door of a third, by its side -/
def oth (mk : Nat → Nat → Nat) (x y k s : Nat) : Option Nat := if cm mk x y k s = 2 then none else if cm mk x y k ((s + 1) % 3) = cm mk x y k s then some ((s + 1) % 3) else some ((s + 2) % 3)
/-- a third, and the side by which the walk came in -/
abbrev wSt : Type := Nat × Nat × Nat × Nat
def wGo (x y k t : Nat) : wSt := (if t = 0 then (if k = 0 then x - 1 else x + 1) else x, if t = 1 then (if k = 0 then y - 1 else y + 1) else y, 1 - k, t)
def wOk1 (N : Nat) (mk : Nat → Nat → Nat) (s : wSt) : Prop := isT N s.1 s.2.1 s.2.2.1 ∧ s.2.2.2 < 3 ∧ tDoor mk s.1 s.2.1 s.2.2.1 s.2.2.2 = true
/-- a step: the end, or the next third -/
def wStep (N : Nat) (mk : Nat → Nat → Nat) (s : wSt) : wEnd ⊕ wSt := match oth mk s.1 s.2.1 s.2.2.1 s.2.2.2 with
  | none => .inl (s.1, s.2.1, s.2.2.1, none)
  | some t => if s.2.2.1 = 0 ∧ t = 2 ∧ s.1 + s.2.1 + 1 = N then .inl (s.1, s.2.1, s.2.2.1, some s.1) else .inr (wGo s.1 s.2.1 s.2.2.1 t)
theorem dr_iff {p q : Nat} : dr p q = true ↔ ((p = 0 ∧ q = 1) ∨ (p = 1 ∧ q = 0)) := by
  unfold dr
  rw [decide_eq_true_eq]
theorem oth_door {N : Nat} {mk : Nat → Nat → Nat} (hok : mkOk N mk) {x y k s t : Nat} (hT : isT N x y k) (hs : s < 3) (hd : tDoor mk x y k s = true) (ho : oth mk x y k s = some t) : t < 3 ∧ t ≠ s ∧ tDoor mk x y k t = true := by
  have l0 := cm_le hok hT 0
  have l1 := cm_le hok hT 1
  have l2 := cm_le hok hT 2
  unfold tDoor at hd ⊢
  unfold oth at ho
  rw [dr_iff] at hd
  rcases (by omega : s = 0 ∨ s = 1 ∨ s = 2) with rfl | rfl | rfl
  · simp only [show (0 + 1) % 3 = 1 from rfl, show (0 + 2) % 3 = 2 from rfl] at hd ho
    split at ho
    · cases ho
    · split at ho <;> cases ho
      · refine ⟨by omega, by omega, ?_⟩
        rw [dr_iff]
        simp only [show (1 + 1) % 3 = 2 from rfl, show (1 + 2) % 3 = 0 from rfl]
        omega
      · refine ⟨by omega, by omega, ?_⟩
        rw [dr_iff]
        simp only [show (2 + 1) % 3 = 0 from rfl, show (2 + 2) % 3 = 1 from rfl]
        omega
  · simp only [show (1 + 1) % 3 = 2 from rfl, show (1 + 2) % 3 = 0 from rfl] at hd ho
    split at ho
    · cases ho
    · split at ho <;> cases ho
      · refine ⟨by omega, by omega, ?_⟩
        rw [dr_iff]
        simp only [show (2 + 1) % 3 = 0 from rfl, show (2 + 2) % 3 = 1 from rfl]
        omega
      · refine ⟨by omega, by omega, ?_⟩
        rw [dr_iff]
        simp only [show (0 + 1) % 3 = 1 from rfl, show (0 + 2) % 3 = 2 from rfl]
        omega
  · simp only [show (2 + 1) % 3 = 0 from rfl, show (2 + 2) % 3 = 1 from rfl] at hd ho
    split at ho
    · cases ho
    · split at ho <;> cases ho
      · refine ⟨by omega, by omega, ?_⟩
        rw [dr_iff]
        simp only [show (0 + 1) % 3 = 1 from rfl, show (0 + 2) % 3 = 2 from rfl]
        omega
      · refine ⟨by omega, by omega, ?_⟩
        rw [dr_iff]
        simp only [show (1 + 1) % 3 = 2 from rfl, show (1 + 2) % 3 = 0 from rfl]
        omega
