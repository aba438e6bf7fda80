/-! ===== a walk comes into no third twice ===== -/
theorem php : ∀ (M : Nat) (f : Nat → Nat), (∀ i, i ≤ M → f i < M) → ∃ i j, i < j ∧ j ≤ M ∧ f i = f j
  | 0, f, h => absurd (h 0 (Nat.le_refl 0)) (Nat.not_lt_zero _)
  | M + 1, f, h => by
    by_cases hv : ∃ i, i ≤ M ∧ f i = f (M + 1)
    · obtain ⟨i, hi, e⟩ := hv
      exact ⟨i, M + 1, by omega, by omega, e⟩
    · have hne : ∀ i, i ≤ M → f i ≠ f (M + 1) := fun i hi e => hv ⟨i, hi, e⟩
      obtain ⟨i, j, h1, h2, h3⟩ := php M (fun i => if f i = M then f (M + 1) else f i) (fun i hi => by
        have a1 := h i (by omega)
        have a2 := h (M + 1) (by omega)
        have a3 := hne i hi
        by_cases q : f i = M
        · simp only [q, if_true]
          omega
        · simp only [q, if_false]
          omega)
      refine ⟨i, j, h1, by omega, ?_⟩
      have n1 := hne i (by omega)
      have n2 := hne j h2
      by_cases q1 : f i = M
      · by_cases q2 : f j = M
        · rw [q1, q2]
        · simp only [q1, q2, if_true, if_false] at h3
          exact absurd h3.symm n2
      · by_cases q2 : f j = M
        · simp only [q1, q2, if_true, if_false] at h3
          exact absurd h3 n1
        · simp only [q1, q2, if_false] at h3
          exact h3
/-- thirds, numbered: those of row y begin at rs y -/
def rs (N : Nat) : Nat → Nat
  | 0 => 0
  | y + 1 => rs N y + (2 * (N - y) - 1)
theorem rs_sq (N : Nat) : ∀ y : Nat, y ≤ N → rs N y + (N - y) * (N - y) = N * N
  | 0, _ => by simp [rs]
  | y + 1, h => by
    have ih := rs_sq N y (by omega)
    obtain ⟨m, hm⟩ : ∃ m, N - y = m + 1 := ⟨N - y - 1, by omega⟩
    rw [hm] at ih
    have e2 : (m + 1) * (m + 1) = m * m + 2 * m + 1 := by
      rw [Nat.add_mul, Nat.mul_add, Nat.one_mul, Nat.mul_one]
      omega
    show rs N y + (2 * (N - y) - 1) + (N - (y + 1)) * (N - (y + 1)) = N * N
    rw [hm, show N - (y + 1) = m by omega, ← ih, e2]
    omega
theorem rs_mono (N : Nat) {a b : Nat} (h : a ≤ b) : rs N a ≤ rs N b := by
  induction b with
  | zero => rw [Nat.le_zero.mp h]; exact Nat.le_refl _
  | succ b ih =>
    by_cases hab : a = b + 1
    · rw [hab]; exact Nat.le_refl _
    · have := ih (by omega)
      show rs N a ≤ rs N b + _
      omega
def thc (N x y k : Nat) : Nat := rs N y + (2 * x + k)
theorem thc_row {N x y k : Nat} (h : isT N x y k) : 2 * x + k < 2 * (N - y) - 1 ∧ y < N := by
  rcases h with ⟨rfl, h⟩ | ⟨rfl, h⟩ <;> omega
theorem thc_lt {N x y k : Nat} (h : isT N x y k) : thc N x y k < N * N := by
  obtain ⟨h1, h2⟩ := thc_row h
  have h3 : rs N (y + 1) ≤ rs N N := rs_mono N (by omega)
  have h4 : rs N (y + 1) = rs N y + (2 * (N - y) - 1) := rfl
  have h5 := rs_sq N N (Nat.le_refl N)
  rw [Nat.sub_self] at h5
  unfold thc
  omega
theorem thc_inj {N x y k x' y' k' : Nat} (h : isT N x y k) (h' : isT N x' y' k') (e : thc N x y k = thc N x' y' k') : x = x' ∧ y = y' ∧ k = k' := by
  obtain ⟨h1, h2⟩ := thc_row h
  obtain ⟨h3, h4⟩ := thc_row h'
  have k1 : k ≤ 1 := by rcases h with ⟨rfl, _⟩ | ⟨rfl, _⟩ <;> omega
  have k2 : k' ≤ 1 := by rcases h' with ⟨rfl, _⟩ | ⟨rfl, _⟩ <;> omega
  unfold thc at e
  have hy : y = y' := by
    rcases Nat.lt_trichotomy y y' with q | q | q
    · have a1 : rs N (y + 1) ≤ rs N y' := rs_mono N (by omega)
      have a2 : rs N (y + 1) = rs N y + (2 * (N - y) - 1) := rfl
      omega
    · exact q
    · have a1 : rs N (y' + 1) ≤ rs N y := rs_mono N (by omega)
      have a2 : rs N (y' + 1) = rs N y' + (2 * (N - y') - 1) := rfl
      omega
  subst hy
  omega
section WALK
variable {N : Nat} {mk : Nat → Nat → Nat}
theorem wGo_00 (x y : Nat) : wGo (x + 1) y 0 0 = (x, y, 1, 0) := by simp [wGo]
theorem wGo_01 (x y : Nat) : wGo x (y + 1) 0 1 = (x, y, 1, 1) := by simp [wGo]
theorem wGo_02 (x y : Nat) : wGo x y 0 2 = (x, y, 1, 2) := by simp [wGo]
theorem wGo_10 (x y : Nat) : wGo x y 1 0 = (x + 1, y, 0, 0) := by simp [wGo]
theorem wGo_11 (x y : Nat) : wGo x y 1 1 = (x, y + 1, 0, 1) := by simp [wGo]
theorem wGo_12 (x y : Nat) : wGo x y 1 2 = (x, y, 0, 2) := by simp [wGo]
/-- through a door: the third behind it, which has that door too, and from which the way leads back -/
theorem wGo_ok (hok : mkOk N mk) {x y k t : Nat} (hT : isT N x y k) (ht : t < 3) (hd : tDoor mk x y k t = true) (hout : ¬ (k = 0 ∧ t = 2 ∧ x + y + 1 = N)) :
    wOk1 N mk (wGo x y k t) ∧ wGo (wGo x y k t).1 (wGo x y k t).2.1 (wGo x y k t).2.2.1 t = (x, y, k, t) := by
  unfold tDoor at hd
  rw [dr_iff] at hd
  rcases hT with ⟨rfl, hab⟩ | ⟨rfl, hab⟩ <;> rcases (by omega : t = 0 ∨ t = 1 ∨ t = 2) with rfl | rfl | rfl
  · have hd : (mk x (y + 1) = 0 ∧ mk x y = 1) ∨ (mk x (y + 1) = 1 ∧ mk x y = 0) := hd
    have a1 := (hok x (y + 1) (by omega)).2.1
    have a2 := (hok x y (by omega)).2.1
    obtain ⟨x', rfl⟩ : ∃ x', x = x' + 1 := ⟨x - 1, by omega⟩
    rw [wGo_00]
    refine ⟨⟨Or.inr ⟨rfl, by show x' + y + 2 ≤ N; omega⟩, ht, ?_⟩, wGo_10 x' y⟩
    show dr (mk (x' + 1) y) (mk (x' + 1) (y + 1)) = true
    rw [dr_iff]
    omega
  · have hd : (mk x y = 0 ∧ mk (x + 1) y = 1) ∨ (mk x y = 1 ∧ mk (x + 1) y = 0) := hd
    have a1 := (hok x y (by omega)).2.2.1
    have a2 := (hok (x + 1) y (by omega)).2.2.1
    obtain ⟨y', rfl⟩ : ∃ y', y = y' + 1 := ⟨y - 1, by omega⟩
    rw [wGo_01]
    refine ⟨⟨Or.inr ⟨rfl, by show x + y' + 2 ≤ N; omega⟩, ht, ?_⟩, wGo_11 x y'⟩
    show tDoor mk x y' 1 1 = true
    show dr (cm mk x y' 1 2) (cm mk x y' 1 0) = true
    rw [show cm mk x y' 1 2 = mk (x + 1) (y' + 1) from rfl, show cm mk x y' 1 0 = mk x (y' + 1) from rfl, dr_iff]
    omega
  · have hd : (mk (x + 1) y = 0 ∧ mk x (y + 1) = 1) ∨ (mk (x + 1) y = 1 ∧ mk x (y + 1) = 0) := hd
    rw [wGo_02]
    refine ⟨⟨Or.inr ⟨rfl, by show x + y + 2 ≤ N; omega⟩, ht, ?_⟩, wGo_12 x y⟩
    show tDoor mk x y 1 2 = true
    show dr (cm mk x y 1 0) (cm mk x y 1 1) = true
    rw [show cm mk x y 1 0 = mk x (y + 1) from rfl, show cm mk x y 1 1 = mk (x + 1) y from rfl, dr_iff]
    omega
  · have hd : (mk (x + 1) y = 0 ∧ mk (x + 1) (y + 1) = 1) ∨ (mk (x + 1) y = 1 ∧ mk (x + 1) (y + 1) = 0) := hd
    rw [wGo_10]
    refine ⟨⟨Or.inl ⟨rfl, by show x + 1 + y + 1 ≤ N; omega⟩, ht, ?_⟩, wGo_00 x y⟩
    show dr (mk (x + 1) (y + 1)) (mk (x + 1) y) = true
    rw [dr_iff]
    omega
  · have hd : (mk (x + 1) (y + 1) = 0 ∧ mk x (y + 1) = 1) ∨ (mk (x + 1) (y + 1) = 1 ∧ mk x (y + 1) = 0) := hd
    rw [wGo_11]
    refine ⟨⟨Or.inl ⟨rfl, by show x + (y + 1) + 1 ≤ N; omega⟩, ht, ?_⟩, wGo_01 x y⟩
    show tDoor mk x (y + 1) 0 1 = true
    show dr (cm mk x (y + 1) 0 2) (cm mk x (y + 1) 0 0) = true
    rw [show cm mk x (y + 1) 0 2 = mk x (y + 1) from rfl, show cm mk x (y + 1) 0 0 = mk (x + 1) (y + 1) from rfl, dr_iff]
    omega
  · have hd : (mk x (y + 1) = 0 ∧ mk (x + 1) y = 1) ∨ (mk x (y + 1) = 1 ∧ mk (x + 1) y = 0) := hd
    rw [wGo_12]
    refine ⟨⟨Or.inl ⟨rfl, by show x + y + 1 ≤ N; omega⟩, ht, ?_⟩, wGo_02 x y⟩
    show tDoor mk x y 0 2 = true
    show dr (cm mk x y 0 0) (cm mk x y 0 1) = true
    rw [show cm mk x y 0 0 = mk (x + 1) y from rfl, show cm mk x y 0 1 = mk x (y + 1) from rfl, dr_iff]
    omega
/-- no third has three doors -/
theorem door3 {x y k : Nat} {a b c : Nat} (ha : a < 3) (hb : b < 3) (hc : c < 3) (hab : a ≠ b) (da : tDoor mk x y k a = true) (db : tDoor mk x y k b = true) (dc : tDoor mk x y k c = true) : c = a ∨ c = b := by
  apply Classical.byContradiction
  intro hn
  have h0 : tDoor mk x y k 0 = true := by
    rcases (by omega : a = 0 ∨ b = 0 ∨ c = 0) with q | q | q
    · rw [← q]; exact da
    · rw [← q]; exact db
    · rw [← q]; exact dc
  have h1 : tDoor mk x y k 1 = true := by
    rcases (by omega : a = 1 ∨ b = 1 ∨ c = 1) with q | q | q
    · rw [← q]; exact da
    · rw [← q]; exact db
    · rw [← q]; exact dc
  have h2 : tDoor mk x y k 2 = true := by
    rcases (by omega : a = 2 ∨ b = 2 ∨ c = 2) with q | q | q
    · rw [← q]; exact da
    · rw [← q]; exact db
    · rw [← q]; exact dc
  have h0 : dr (cm mk x y k 1) (cm mk x y k 2) = true := h0
  have h1 : dr (cm mk x y k 2) (cm mk x y k 0) = true := h1
  have h2 : dr (cm mk x y k 0) (cm mk x y k 1) = true := h2
  rw [dr_iff] at h0 h1 h2
  omega
/-- what a step that goes on does -/
theorem wStep_next (hok : mkOk N mk) {s s' : wSt} (hs : wOk1 N mk s) (h : wStep N mk s = .inr s') : wOk1 N mk s' ∧ s'.2.2.2 ≠ s.2.2.2 ∧ tDoor mk s.1 s.2.1 s.2.2.1 s'.2.2.2 = true ∧ wGo s'.1 s'.2.1 s'.2.2.1 s'.2.2.2 = (s.1, s.2.1, s.2.2.1, s'.2.2.2) ∧ s'.2.2.1 = 1 - s.2.2.1 ∧ s' = wGo s.1 s.2.1 s.2.2.1 s'.2.2.2 := by
  obtain ⟨x, y, k, e⟩ := s
  obtain ⟨hT, he, hd⟩ := hs
  unfold wStep at h
  cases ho : oth mk x y k e with
  | none =>
    simp only [ho] at h
    cases h
  | some t =>
    simp only [ho] at h
    by_cases hout : k = 0 ∧ t = 2 ∧ x + y + 1 = N
    · rw [if_pos hout] at h
      cases h
    · rw [if_neg hout] at h
      cases h
      obtain ⟨t3, tne, td⟩ := oth_door hok hT he hd ho
      obtain ⟨w1, w2⟩ := wGo_ok hok hT t3 td hout
      exact ⟨w1, tne, td, w2, rfl, rfl⟩
variable {s : Nat → wSt} {n : Nat}
/-- a walk of n steps -/
def isWalk (N : Nat) (mk : Nat → Nat → Nat) (s : Nat → wSt) (n : Nat) : Prop := wOk1 N mk (s 0) ∧ ∀ i, i < n → wStep N mk (s i) = .inr (s (i + 1))
theorem isWalk_ok (hok : mkOk N mk) (h : isWalk N mk s n) : ∀ i, i ≤ n → wOk1 N mk (s i)
  | 0, _ => h.1
  | i + 1, hi => (wStep_next hok (isWalk_ok hok h i (by omega)) (h.2 i (by omega))).1
abbrev th3 (q : wSt) : Nat × Nat × Nat := (q.1, q.2.1, q.2.2.1)
theorem walk_opp (hok : mkOk N mk) (h : isWalk N mk s n) : ∀ (d i j : Nat), i + d = j → i < j → j ≤ n → i < n → th3 (s i) = th3 (s j) → (s j).2.2.2 = (s (i + 1)).2.2.2 → False := by
  intro d
  induction d using Nat.strongRecOn with
  | _ d ih =>
    intro i j hd hij hj hin e1 e2
    obtain ⟨j', rfl⟩ : ∃ j', j = j' + 1 := ⟨j - 1, by omega⟩
    obtain ⟨a1, a2, a3, a4, a5, a6⟩ := wStep_next hok (isWalk_ok hok h i (by omega)) (h.2 i hin)
    obtain ⟨b1, b2, b3, b4, b5, b6⟩ := wStep_next hok (isWalk_ok hok h j' (by omega)) (h.2 j' (by omega))
    -- the third before j is the one behind i
    have ex : (s i).1 = (s (j' + 1)).1 := (show (th3 (s i)).1 = (th3 (s (j' + 1))).1 from congrArg Prod.fst e1)
    have ey : (s i).2.1 = (s (j' + 1)).2.1 := (show (th3 (s i)).2.1 = (th3 (s (j' + 1))).2.1 from congrArg (fun q => q.2.1) e1)
    have ek : (s i).2.2.1 = (s (j' + 1)).2.2.1 := (show (th3 (s i)).2.2 = (th3 (s (j' + 1))).2.2 from congrArg (fun q => q.2.2) e1)
    rw [← ex, ← ey, ← ek, e2, ← a6] at b4
    have t1 : th3 (s (i + 1)) = th3 (s j') := by
      show ((s (i + 1)).1, (s (i + 1)).2.1, (s (i + 1)).2.2.1) = _
      rw [b4]
    rcases (by omega : j' = i ∨ j' = i + 1 ∨ i + 1 < j') with q | q | q
    · subst q
      have hk := a1.1
      have hk0 := (isWalk_ok hok h j' (by omega)).1
      rw [ek] at a5
      rcases hk with ⟨z, _⟩ | ⟨z, _⟩ <;> omega
    · subst q
      exact b2 e2
    · have o1 := isWalk_ok hok h j' (by omega)
      obtain ⟨c1, c2, c3, c4, c5, c6⟩ := wStep_next hok (isWalk_ok hok h (i + 1) (by omega)) (h.2 (i + 1) (by omega))
      have fx : (s (i + 1)).1 = (s j').1 := (show (th3 (s (i + 1))).1 = (th3 (s j')).1 from congrArg Prod.fst t1)
      have fy : (s (i + 1)).2.1 = (s j').2.1 := (show (th3 (s (i + 1))).2.1 = (th3 (s j')).2.1 from congrArg (fun q => q.2.1) t1)
      have fk : (s (i + 1)).2.2.1 = (s j').2.2.1 := (show (th3 (s (i + 1))).2.2 = (th3 (s j')).2.2 from congrArg (fun q => q.2.2) t1)
      have dj := o1.2.2
      rw [← fx, ← fy, ← fk] at dj
      rcases door3 a1.2.1 c1.2.1 o1.2.1 (fun z => c2 z.symm) a1.2.2 c3 dj with z | z
      · exact b2 (e2.trans z.symm)
      · exact ih (d - 2) (by omega) (i + 1) j' (by omega) q (by omega) (by omega) t1 z
/-- THE WALK from a door at which z is 0 -/
theorem walk_once (hok : mkOk N mk) (h : isWalk N mk s n) (hN : 1 ≤ N) {d : Nat} (h0 : s 0 = (d, N - 1 - d, 0, 2)) (hdN : d < N) : ∀ (i j : Nat), i < j → j ≤ n → th3 (s i) = th3 (s j) → False := by
  intro i
  induction i with
  | zero =>
    intro j hij hj e1
    obtain ⟨a1, a2, a3, a4, a5, a6⟩ := wStep_next hok (isWalk_ok hok h 0 (by omega)) (h.2 0 (by omega))
    obtain ⟨j', rfl⟩ : ∃ j', j = j' + 1 := ⟨j - 1, by omega⟩
    have oj := isWalk_ok hok h (j' + 1) hj
    obtain ⟨b1, b2, b3, b4, b5, b6⟩ := wStep_next hok (isWalk_ok hok h j' (by omega)) (h.2 j' (by omega))
    have ex : (s 0).1 = (s (j' + 1)).1 := (show (th3 (s 0)).1 = (th3 (s (j' + 1))).1 from congrArg Prod.fst e1)
    have ey : (s 0).2.1 = (s (j' + 1)).2.1 := (show (th3 (s 0)).2.1 = (th3 (s (j' + 1))).2.1 from congrArg (fun q => q.2.1) e1)
    have ek : (s 0).2.2.1 = (s (j' + 1)).2.2.1 := (show (th3 (s 0)).2.2 = (th3 (s (j' + 1))).2.2 from congrArg (fun q => q.2.2) e1)
    have dj := oj.2.2
    rw [← ex, ← ey, ← ek] at dj
    rcases door3 h.1.2.1 a1.2.1 oj.2.1 (fun z => a2 z.symm) h.1.2.2 a3 dj with z | z
    · -- by the same door, from outside the net
      rw [← ex, ← ey, ← ek, z, h0] at b4
      have oj' := (isWalk_ok hok h j' (by omega)).1
      have b4 : (d, N - 1 - d, 1, 2) = ((s j').1, (s j').2.1, (s j').2.2.1, 2) := b4
      have q1 : d = (s j').1 := congrArg Prod.fst b4
      have q2 : N - 1 - d = (s j').2.1 := congrArg (fun q => q.2.1) b4
      have q3 : 1 = (s j').2.2.1 := congrArg (fun q => q.2.2.1) b4
      rcases oj' with ⟨w1, w2⟩ | ⟨w1, w2⟩ <;> omega
    · exact walk_opp hok h (j' + 1) 0 (j' + 1) (by omega) hij hj (by omega) e1 z
  | succ i ih =>
    intro j hij hj e1
    obtain ⟨j', rfl⟩ : ∃ j', j = j' + 1 := ⟨j - 1, by omega⟩
    have oj := isWalk_ok hok h (j' + 1) hj
    have oi := isWalk_ok hok h (i + 1) (by omega)
    obtain ⟨a1, a2, a3, a4, a5, a6⟩ := wStep_next hok (isWalk_ok hok h i (by omega)) (h.2 i (by omega))
    obtain ⟨c1, c2, c3, c4, c5, c6⟩ := wStep_next hok oi (h.2 (i + 1) (by omega))
    obtain ⟨b1, b2, b3, b4, b5, b6⟩ := wStep_next hok (isWalk_ok hok h j' (by omega)) (h.2 j' (by omega))
    have ex : (s (i + 1)).1 = (s (j' + 1)).1 := (show (th3 (s (i + 1))).1 = (th3 (s (j' + 1))).1 from congrArg Prod.fst e1)
    have ey : (s (i + 1)).2.1 = (s (j' + 1)).2.1 := (show (th3 (s (i + 1))).2.1 = (th3 (s (j' + 1))).2.1 from congrArg (fun q => q.2.1) e1)
    have ek : (s (i + 1)).2.2.1 = (s (j' + 1)).2.2.1 := (show (th3 (s (i + 1))).2.2 = (th3 (s (j' + 1))).2.2 from congrArg (fun q => q.2.2) e1)
    have dj := oj.2.2
    rw [← ex, ← ey, ← ek] at dj
    rcases door3 oi.2.1 c1.2.1 oj.2.1 (fun z => c2 z.symm) oi.2.2 c3 dj with z | z
    · rw [← ex, ← ey, ← ek, z, a4] at b4
      have t1 : th3 (s i) = th3 (s j') := by
        have q1 : (s i).1 = (s j').1 := (Prod.mk.inj b4).1
        have q2 : (s i).2.1 = (s j').2.1 := (Prod.mk.inj (Prod.mk.inj b4).2).1
        have q3 : (s i).2.2.1 = (s j').2.2.1 := (Prod.mk.inj (Prod.mk.inj (Prod.mk.inj b4).2).2).1
        show ((s i).1, (s i).2.1, (s i).2.2.1) = _
        rw [q1, q2, q3]
      exact ih j' (by omega) (by omega) t1
    · exact walk_opp hok h (j' - i) (i + 1) (j' + 1) (by omega) hij hj (by omega) e1 z
/-- so it is short -/
theorem walk_short (hok : mkOk N mk) (h : isWalk N mk s n) (hN : 1 ≤ N) {d : Nat} (h0 : s 0 = (d, N - 1 - d, 0, 2)) (hdN : d < N) : n < N * N := by
  apply Classical.byContradiction
  intro hn
  obtain ⟨i, j, hij, hj, e⟩ := php (N * N) (fun i => thc N (s i).1 (s i).2.1 (s i).2.2.1) (fun i hi => thc_lt (isWalk_ok hok h i (by omega)).1)
  obtain ⟨q1, q2, q3⟩ := thc_inj (isWalk_ok hok h i (by omega)).1 (isWalk_ok hok h j (by omega)).1 e
  refine walk_once hok h hN h0 hdN i j hij (by omega) ?_
  show ((s i).1, (s i).2.1, (s i).2.2.1) = _
  rw [q1, q2, q3]
end WALK
