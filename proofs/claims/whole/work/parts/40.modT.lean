/-! ===== the reference: its net ===== -/
abbrev mtH (th : Int32) (nk nt rm : Nat → Int32) (ln : Int32) (lg : Nat → Int64) (ma : Nat → Int32) : xH := [mdO th nk nt rm ln lg, iA 46 441 ma]
def MTB (N : Nat) (mk : Nat → Nat → Nat) (nt ma : Nat → Int32) : Prop := 1 ≤ N ∧ N ≤ 20 ∧ mkOk N mk ∧ nt 0 = nI N ∧ ∀ x y, x + y ≤ N → ma (21 * y + x) = nI (mk x y)
def MTW (w : Option wEnd) (nt : Nat → Int32) : Prop := match w with
  | none => nt 4 = 0
  | some (x, y, k, o) => nt 4 = 1 ∧ nt 5 = oA o ∧ nt 6 = nI x ∧ nt 7 = nI y ∧ nt 8 = nI k ∧ nt 9 = oI o
def MT (N : Nat) (mk : Nat → Nat → Nat) (w : Option wEnd) (nk rm : Nat → Int32) (ln : Int32) (lg : Nat → Int64) (h : xH) : Prop := ∃ (th : Int32) (nt ma : Nat → Int32), h = mtH th nk nt rm ln lg ma ∧ MTB N mk nt ma ∧ MTW w nt
theorem m_isPoint (l : Launch) (N : Nat) (hN1 : 1 ≤ N) (hN : N ≤ 20) (th : Int32) (nk nt rm : Nat → Int32) (ln : Int32) (lg : Nat → Int64) (ma : Nat → Int32) (hsz : nt 0 = nI N) (x y : Int32) : Ev l zX5_isPoint [.inr (40, 0), vI x, vI y] (mtH th nk nt rm ln lg ma) (fun r h' => r = some (vI (b2i (isPt N x y))) ∧ h' = mtH th nk nt rm ln lg ma) := by
  have hT : (nt 0).toInt = (N : Int) := by rw [hsz]; exact nI_toInt (by omega)
  have ry := toInt_rng y
  refine ev_run okX5_isPoint (by decide +kernel) (Nat.le_of_ble_eq_true rfl) 60 ?_
  refine And.intro (fun h1 => ?_) (fun h1 => And.intro (fun h2 => ?_) (fun h2 => And.intro (fun h3 => ?_) (fun h3 => ?_)))
  · have h1 : x.toInt < 0 := lt_T.mp h1
    have e : isPt N x y = false := decide_eq_false (by omega)
    exact And.intro (Or.inl rfl) (And.intro ⟨by rw [e]; rfl, rfl⟩ rfl)
  · have h2 : y.toInt < 0 := lt_T.mp h2
    have e : isPt N x y = false := decide_eq_false (by omega)
    exact And.intro (Or.inl rfl) (And.intro ⟨by rw [e]; rfl, rfl⟩ rfl)
  · have h2 : ¬ y.toInt < 0 := fun q => h2 (lt_T.mpr q)
    have h3 : (nt 0 - y).toInt < x.toInt := lt_T.mp h3
    rw [T_sub (by rw [hT]; omega) (by rw [hT]; omega), hT] at h3
    have e : isPt N x y = false := decide_eq_false (by omega)
    exact And.intro (Or.inl rfl) (And.intro ⟨by rw [e]; rfl, rfl⟩ rfl)
  · have h1 : ¬ x.toInt < 0 := fun q => h1 (lt_T.mpr q)
    have h2 : ¬ y.toInt < 0 := fun q => h2 (lt_T.mpr q)
    have h3 : ¬ (nt 0 - y).toInt < x.toInt := fun q => h3 (lt_T.mpr q)
    rw [T_sub (by rw [hT]; omega) (by rw [hT]; omega), hT] at h3
    have e : isPt N x y = true := decide_eq_true (by omega)
    exact And.intro (Or.inr rfl) (And.intro ⟨by rw [e]; rfl, rfl⟩ rfl)
theorem idx21b {a b N : Nat} (h : a + b ≤ N) (hN : N ≤ 20) : 21 * nI b + nI a = nI (21 * b + a) ∧ (nI (21 * b + a)).toNatClampNeg = 21 * b + a ∧ vp_in (nI (21 * b + a)) 441 := by
  refine ⟨?_, nI_clamp (by omega), vp_in_nI (by omega) (by omega)⟩
  rw [show (21 : Int32) = nI 21 from rfl, pk_mul, nI_add]
theorem m_markOf (l : Launch) (N : Nat) (mk : Nat → Nat → Nat) (th : Int32) (nk nt rm : Nat → Int32) (ln : Int32) (lg : Nat → Int64) (ma : Nat → Int32) (hN : N ≤ 20) (hma : ∀ x y, x + y ≤ N → ma (21 * y + x) = nI (mk x y)) (a b : Nat) (hab : a + b ≤ N) (x y : Int32) (hx : x = nI a) (hy : y = nI b) : Ev l zX5_markOf [.inr (40, 0), vI x, vI y] (mtH th nk nt rm ln lg ma) (fun r h' => r = some (vI (nI (mk a b))) ∧ h' = mtH th nk nt rm ln lg ma) := by
  subst hx; subst hy
  obtain ⟨i1, i2, i3⟩ := idx21b hab hN
  refine ev_run okX5_markOf (by decide +kernel) (Nat.le_of_ble_eq_true rfl) 60 ?_
  refine And.intro (by show vp_in (21 * nI b + nI a) 441; rw [i1]; exact i3) ?_
  refine And.intro ⟨?_, rfl⟩ rfl
  show some (vI (ma (21 * nI b + nI a).toNatClampNeg)) = _
  rw [i1, i2, hma a b hab]
theorem m_isDoor (l : Launch) (p q : Nat) (hp : p ≤ 2) (hq : q ≤ 2) (x y : Int32) (hx : x = nI p) (hy : y = nI q) : Ev l zX5_isDoor [vI x, vI y] [] (fun r h' => r = some (vI (b2i (dr p q))) ∧ h' = []) := by
  subst hx; subst hy
  refine ev_run okX5_isDoor (by decide +kernel) (Nat.le_of_ble_eq_true rfl) 60 ?_
  have e : nI p + nI q = 1 ↔ p + q = 1 := by
    rw [nI_add]
    exact nI_eq (b := 1) (by omega) (by omega)
  refine And.intro (fun z => ?_) (fun z => ?_)
  · have z : ¬ p + q = 1 := fun w => z (e.mpr w)
    have d : dr p q = false := decide_eq_false (by omega)
    exact And.intro (Or.inl rfl) (And.intro ⟨by rw [d]; rfl, rfl⟩ rfl)
  · have z : p + q = 1 := e.mp z
    have d : dr p q = true := decide_eq_true (by omega)
    exact And.intro (Or.inr rfl) (And.intro ⟨by rw [d]; rfl, rfl⟩ rfl)
theorem m_marked (l : Launch) (N : Nat) (mk : Nat → Nat → Nat) (w : Option wEnd) (nk rm : Nat → Int32) (ln : Int32) (lg : Nat → Int64) (h : xH) (hH : MT N mk w nk rm ln lg h) (x y : Int32) : Ev l zX5_marked [.inr (40, 0), vI x, vI y] h (fun r h' => r = some (vI (qMark N mk x y)) ∧ MT N mk w nk rm ln lg h') := by
  obtain ⟨th, nt, ma, rfl, hB, hW⟩ := hH
  obtain ⟨hN1, h20, hok, hsz, hma⟩ := id hB
  have hend : MT N mk w nk rm ln lg (mtH 0 nk nt rm ln lg ma) := ⟨0, nt, ma, rfl, hB, hW⟩
  refine ev_run okX5_marked (by decide +kernel) (Nat.le_of_ble_eq_true rfl) 60 ?_
  refine ⟨[40, 46], _, m_isPoint l N hN1 h20 0 nk nt rm ln lg ma hsz x y, fun r hc' hP _ => ?_⟩
  obtain ⟨rfl, rfl⟩ := hP
  refine And.intro (fun q => ?_) (fun q => ?_)
  · refine And.intro ⟨?_, hend⟩ rfl
    unfold qMark
    rw [b2i0 q]
    rfl
  · have q := b2i1 q
    obtain ⟨a, b, hab, rfl, rfl⟩ := isPt_of q
    refine ⟨[40, 46], _, m_markOf l N mk 0 nk nt rm ln lg ma h20 hma a b hab _ _ rfl rfl, fun r hc' hP _ => ?_⟩
    obtain ⟨rfl, rfl⟩ := hP
    refine And.intro ⟨?_, hend⟩ rfl
    rw [qMark_nI hab h20]
/-- the corners of a third, as the reference names them: a, b, c -/
def ta (mk : Nat → Nat → Nat) (x y k : Nat) : Nat := cm mk x y k 2
theorem m_thirdIs (l : Launch) (N : Nat) (mk : Nat → Nat → Nat) (th : Int32) (nk nt rm : Nat → Int32) (ln : Int32) (lg : Nat → Int64) (ma : Nat → Int32) (hN : N ≤ 20) (hma : ∀ x y, x + y ≤ N → ma (21 * y + x) = nI (mk x y)) (a b k : Nat) (hT : isT N a b k) (x y z : Int32) (hx : x = nI a) (hy : y = nI b) (hz : z = nI k) : Ev l zX5_thirdIs [.inr (40, 0), vI x, vI y, vI z] (mtH th nk nt rm ln lg ma) (fun r h' => r = none ∧ ∃ nt' : Nat → Int32, (∀ j, j ≠ 1 → j ≠ 2 → j ≠ 3 → nt' j = nt j) ∧ nt' 1 = nI (cm mk a b k 2) ∧ nt' 2 = nI (mk (a + 1) b) ∧ nt' 3 = nI (mk a (b + 1)) ∧ h' = mtH th nk nt' rm ln lg ma) := by
  subst hx; subst hy; subst hz
  have hab : a + b + 1 ≤ N := by rcases hT with ⟨_, q⟩ | ⟨_, q⟩ <;> omega
  have tail : ∀ v : Int32, v = nI (cm mk a b k 2) → ∃ nt' : Nat → Int32, (∀ j, j ≠ 1 → j ≠ 2 → j ≠ 3 → nt' j = nt j) ∧ nt' 1 = nI (cm mk a b k 2) ∧ nt' 2 = nI (mk (a + 1) b) ∧ nt' 3 = nI (mk a (b + 1)) ∧ nt' = upd (upd (upd nt 1 v) 2 (nI (mk (a + 1) b))) 3 (nI (mk a (b + 1))) := by
    intro v hv
    refine ⟨_, fun j h1 h2 h3 => ?_, ?_, ?_, ?_, rfl⟩
    · rw [pk_un h3, pk_un h2, pk_un h1]
    · rw [pk_un (by omega), pk_un (by omega), pk_us]; exact hv
    · rw [pk_un (by omega), pk_us]
    · rw [pk_us]
  refine ev_run okX5_thirdIs (by decide +kernel) (Nat.le_of_ble_eq_true rfl) 60 ?_
  rcases hT with ⟨rfl, q⟩ | ⟨rfl, q⟩
  · refine And.intro (fun z => absurd rfl z) (fun _ => ?_)
    refine ⟨[40, 46], _, m_markOf l N mk th nk nt rm ln lg ma hN hma a b (by omega) _ _ rfl rfl, fun r hc' hP _ => ?_⟩
    obtain ⟨rfl, rfl⟩ := hP
    refine ⟨[40, 46], _, m_markOf l N mk th nk (upd nt 1 (nI (mk a b))) rm ln lg ma hN hma (a + 1) b (by omega) _ _ (nI_1 a) rfl, fun r hc' hP _ => ?_⟩
    obtain ⟨rfl, rfl⟩ := hP
    refine ⟨[40, 46], _, m_markOf l N mk th nk (upd (upd nt 1 (nI (mk a b))) 2 (nI (mk (a + 1) b))) rm ln lg ma hN hma a (b + 1) (by omega) _ _ rfl (nI_1 b), fun r hc' hP _ => ?_⟩
    obtain ⟨rfl, rfl⟩ := hP
    obtain ⟨nt', n1, n2, n3, n4, n5⟩ := tail (nI (mk a b)) rfl
    refine And.intro ⟨rfl, nt', n1, n2, n3, n4, ?_⟩ rfl
    rw [n5]
    rfl
  · refine And.intro (fun _ => ?_) (fun z => absurd z (by decide))
    refine ⟨[40, 46], _, m_markOf l N mk th nk nt rm ln lg ma hN hma (a + 1) (b + 1) (by omega) _ _ (nI_1 a) (nI_1 b), fun r hc' hP _ => ?_⟩
    obtain ⟨rfl, rfl⟩ := hP
    refine ⟨[40, 46], _, m_markOf l N mk th nk (upd nt 1 (nI (mk (a + 1) (b + 1)))) rm ln lg ma hN hma (a + 1) b (by omega) _ _ (nI_1 a) rfl, fun r hc' hP _ => ?_⟩
    obtain ⟨rfl, rfl⟩ := hP
    refine ⟨[40, 46], _, m_markOf l N mk th nk (upd (upd nt 1 (nI (mk (a + 1) (b + 1)))) 2 (nI (mk (a + 1) b))) rm ln lg ma hN hma a (b + 1) (by omega) _ _ rfl (nI_1 b), fun r hc' hP _ => ?_⟩
    obtain ⟨rfl, rfl⟩ := hP
    obtain ⟨nt', n1, n2, n3, n4, n5⟩ := tail (nI (mk (a + 1) (b + 1))) rfl
    refine And.intro ⟨rfl, nt', n1, n2, n3, n4, ?_⟩ rfl
    rw [n5]
    rfl
