/-! ===== the class Net: points, marks, doors ===== -/
theorem bmod_in {z : Int} (h1 : -2147483648 ≤ z) (h2 : z < 2147483648) : z.bmod (2 ^ 32) = z := by
  rw [Int.bmod_def]
  have e : ((2 ^ 32 : Nat) : Int) = 4294967296 := rfl
  rw [e]
  split <;> omega
theorem T_sub {x y : Int32} (h1 : -2147483648 ≤ x.toInt - y.toInt) (h2 : x.toInt - y.toInt < 2147483648) : (x - y).toInt = x.toInt - y.toInt := by
  rw [Int32.toInt_sub]
  exact bmod_in h1 h2
theorem T_add {x y : Int32} (h1 : -2147483648 ≤ x.toInt + y.toInt) (h2 : x.toInt + y.toInt < 2147483648) : (x + y).toInt = x.toInt + y.toInt := by
  rw [Int32.toInt_add]
  exact bmod_in h1 h2
abbrev ntH (ma : Nat → Int32) (sz wk ax ay ak ob : Int32) : xH := [(6, .inr (2, [.inr (7, 0), vI sz, vI wk, vI ax, vI ay, vI ak, vI ob])), iA 7 441 ma]
/-- a mark that a point may have -/
def mkOk (N : Nat) (mk : Nat → Nat → Nat) : Prop := ∀ x y, x + y ≤ N → mk x y ≤ 2 ∧ (mk x y = 0 → 0 < x) ∧ (mk x y = 1 → 0 < y) ∧ (mk x y = 2 → x + y < N)
def TB (N : Nat) (mk : Nat → Nat → Nat) (ma : Nat → Int32) (sz : Int32) : Prop := 1 ≤ N ∧ N ≤ 20 ∧ mkOk N mk ∧ sz = nI N ∧ ∀ x y, x + y ≤ N → ma (21 * x + y) = nI (mk x y)
/-- where the latest walk ended: x, y, 0 or 1, the door by which it went out -/
abbrev wEnd : Type := Nat × Nat × Nat × Option Nat
def oI (o : Option Nat) : Int32 := match o with
  | none => -1
  | some d => nI d
def TW (w : Option wEnd) (wk ax ay ak ob : Int32) : Prop := match w with
  | none => wk = 0
  | some (x, y, k, o) => wk = 1 ∧ ax = nI x ∧ ay = nI y ∧ ak = nI k ∧ ob = oI o
def TH (N : Nat) (mk : Nat → Nat → Nat) (w : Option wEnd) (h : xH) : Prop := ∃ (ma : Nat → Int32) (sz wk ax ay ak ob : Int32), h = ntH ma sz wk ax ay ak ob ∧ TB N mk ma sz ∧ TW w wk ax ay ak ob
def isPt (N : Nat) (x y : Int32) : Bool := decide (0 ≤ x.toInt ∧ 0 ≤ y.toInt ∧ x.toInt + y.toInt ≤ (N : Int))
theorem c_isPoint (l : Launch) (N : Nat) (hN : N ≤ 20) (ma : Nat → Int32) (wk ax ay ak ob x y : Int32) : Ev l zX2_isPoint [.inr (6, 0), vI x, vI y] (ntH ma (nI N) wk ax ay ak ob) (fun r h' => r = some (vI (b2i (isPt N x y))) ∧ h' = ntH ma (nI N) wk ax ay ak ob) := by
  have hT : (nI N).toInt = (N : Int) := nI_toInt (by omega)
  have hno : ¬ (0 ≤ x.toInt ∧ 0 ≤ y.toInt ∧ x.toInt + y.toInt ≤ (N : Int)) → b2i (isPt N x y) = 0 := fun q => by
    unfold isPt
    rw [decide_eq_false q]
    rfl
  have out : ¬ (0 ≤ x.toInt ∧ 0 ≤ y.toInt ∧ x.toInt + y.toInt ≤ (N : Int)) → ((0 : Int32) = 0 ∨ (0 : Int32) = 1) ∧ ((some (vI 0) = some (vI (b2i (isPt N x y))) ∧ ntH ma (nI N) wk ax ay ak ob = ntH ma (nI N) wk ax ay ak ob) ∧ x_shp (ntH ma (nI N) wk ax ay ak ob) = x_shp (ntH ma (nI N) wk ax ay ak ob)) := fun q => ⟨Or.inl rfl, ⟨by rw [hno q], rfl⟩, rfl⟩
  refine ev_run okX2_isPoint (by decide +kernel) (Nat.le_of_ble_eq_true rfl) 100 ?_
  refine And.intro (fun h1 => ?_) (fun h1 => And.intro (fun h2 => ?_) (fun h2 => And.intro (fun h3 => ?_) (fun h3 => And.intro (fun h4 => ?_) (fun h4 => ?_))))
  · have h1 : x.toInt < 0 := lt_T.mp h1
    exact out (by omega)
  · have h1 : ¬ x.toInt < 0 := fun q => h1 (lt_T.mpr q)
    have h2 := lt_T.mp h2
    rw [hT] at h2
    by_cases hy : 0 ≤ y.toInt
    · exact out (by omega)
    · exact out (by omega)
  · have h3 : y.toInt < 0 := lt_T.mp h3
    exact out (by omega)
  · have h1 : ¬ x.toInt < 0 := fun q => h1 (lt_T.mpr q)
    have h2 : ¬ (nI N).toInt < x.toInt := fun q => h2 (lt_T.mpr q)
    rw [hT] at h2
    have h4 : (nI N - x).toInt < y.toInt := lt_T.mp h4
    rw [T_sub (by rw [hT]; omega) (by rw [hT]; omega), hT] at h4
    exact out (by omega)
  · have h1 : ¬ x.toInt < 0 := fun q => h1 (lt_T.mpr q)
    have h2 : ¬ (nI N).toInt < x.toInt := fun q => h2 (lt_T.mpr q)
    rw [hT] at h2
    have h3 : ¬ y.toInt < 0 := fun q => h3 (lt_T.mpr q)
    have h4 : ¬ (nI N - x).toInt < y.toInt := fun q => h4 (lt_T.mpr q)
    rw [T_sub (by rw [hT]; omega) (by rw [hT]; omega), hT] at h4
    refine And.intro (Or.inr rfl) (And.intro ⟨?_, rfl⟩ rfl)
    have : isPt N x y = true := decide_eq_true (by omega)
    rw [this]
    rfl
/-- a point, as numbers -/
theorem isPt_of {N : Nat} {x y : Int32} (h : isPt N x y = true) : ∃ a b : Nat, a + b ≤ N ∧ x = nI a ∧ y = nI b := by
  have q := of_decide_eq_true h
  obtain ⟨a, ha, e1, t1⟩ := nI_arg (x := x) q.1
  obtain ⟨b, hb, e2, t2⟩ := nI_arg (x := y) q.2.1
  exact ⟨a, b, by omega, e1, e2⟩
theorem isPt_nI {N a b : Nat} (h : a + b ≤ N) (hN : N ≤ 20) : isPt N (nI a) (nI b) = true := by
  apply decide_eq_true
  rw [nI_toInt (by omega), nI_toInt (by omega)]
  omega
def qMark (N : Nat) (mk : Nat → Nat → Nat) (x y : Int32) : Int32 := if isPt N x y = true then nI (mk x.toInt.toNat y.toInt.toNat) else -1
theorem qMark_nI {N : Nat} {mk : Nat → Nat → Nat} {a b : Nat} (h : a + b ≤ N) (hN : N ≤ 20) : qMark N mk (nI a) (nI b) = nI (mk a b) := by
  unfold qMark
  rw [if_pos (isPt_nI h hN), nI_toInt (by omega), nI_toInt (by omega)]
  rfl
theorem idx21 {a b N : Nat} (h : a + b ≤ N) (hN : N ≤ 20) : nI a * 21 + nI b = nI (21 * a + b) ∧ (nI (21 * a + b)).toNatClampNeg = 21 * a + b ∧ vp_in (nI (21 * a + b)) 441 := by
  refine ⟨?_, nI_clamp (by omega), vp_in_nI (by omega) (by omega)⟩
  rw [show (21 : Int32) = nI 21 from rfl, pk_mul, nI_add, Nat.mul_comm]
theorem c_markAt (l : Launch) (N : Nat) (mk : Nat → Nat → Nat) (ma : Nat → Int32) (sz wk ax ay ak ob x y : Int32) (hB : TB N mk ma sz) : Ev l zX2_markAt [.inr (6, 0), vI x, vI y] (ntH ma sz wk ax ay ak ob) (fun r h' => r = some (vI (qMark N mk x y)) ∧ h' = ntH ma sz wk ax ay ak ob) := by
  obtain ⟨h1, h20, hok, rfl, hma⟩ := hB
  refine ev_run okX2_markAt (by decide +kernel) (Nat.le_of_ble_eq_true rfl) 100 ?_
  refine ⟨[6, 7], _, c_isPoint l N h20 ma wk ax ay ak ob x y, fun r hc' hP _ => ?_⟩
  obtain ⟨rfl, rfl⟩ := hP
  refine And.intro (fun q => ?_) (fun q => ?_)
  · refine And.intro ⟨?_, rfl⟩ rfl
    unfold qMark
    rw [b2i0 q]
    rfl
  · have q := b2i1 q
    obtain ⟨a, b, hab, rfl, rfl⟩ := isPt_of q
    obtain ⟨i1, i2, i3⟩ := idx21 hab h20
    refine And.intro (by show vp_in (nI a * 21 + nI b) 441; rw [i1]; exact i3) ?_
    refine And.intro ⟨?_, rfl⟩ rfl
    rw [qMark_nI hab h20]
    show some (vI (ma (nI a * 21 + nI b).toNatClampNeg)) = _
    rw [i1, i2, hma a b hab]
def mayB (N : Nat) (x y k : Int32) : Bool := decide ((k = 0 ∧ 0 < x.toInt) ∨ (k = 1 ∧ 0 < y.toInt) ∨ (k = 2 ∧ x.toInt + y.toInt < (N : Int)))
theorem c_mayBear (l : Launch) (N : Nat) (hN : N ≤ 20) (ma : Nat → Int32) (wk ax ay ak ob : Int32) (a b : Nat) (hab : a + b ≤ N) (k : Int32) : Ev l zX2_mayBear [.inr (6, 0), vI (nI a), vI (nI b), vI k] (ntH ma (nI N) wk ax ay ak ob) (fun r h' => r = some (vI (b2i (mayB N (nI a) (nI b) k))) ∧ h' = ntH ma (nI N) wk ax ay ak ob) := by
  have ta : (nI a).toInt = (a : Int) := nI_toInt (by omega)
  have tb : (nI b).toInt = (b : Int) := nI_toInt (by omega)
  have yes : mayB N (nI a) (nI b) k = true → ((1 : Int32) = 0 ∨ (1 : Int32) = 1) ∧ ((some (vI 1) = some (vI (b2i (mayB N (nI a) (nI b) k))) ∧ ntH ma (nI N) wk ax ay ak ob = ntH ma (nI N) wk ax ay ak ob) ∧ x_shp (ntH ma (nI N) wk ax ay ak ob) = x_shp (ntH ma (nI N) wk ax ay ak ob)) := fun q => ⟨Or.inr rfl, ⟨by rw [q]; rfl, rfl⟩, rfl⟩
  have no : mayB N (nI a) (nI b) k = false → ((0 : Int32) = 0 ∨ (0 : Int32) = 1) ∧ ((some (vI 0) = some (vI (b2i (mayB N (nI a) (nI b) k))) ∧ ntH ma (nI N) wk ax ay ak ob = ntH ma (nI N) wk ax ay ak ob) ∧ x_shp (ntH ma (nI N) wk ax ay ak ob) = x_shp (ntH ma (nI N) wk ax ay ak ob)) := fun q => ⟨Or.inl rfl, ⟨by rw [q]; rfl, rfl⟩, rfl⟩
  have hsub : nI N - nI a - nI b = nI (N - a - b) := by rw [pk_sub (by omega), pk_sub (by omega)]
  have n01 : ¬ (0 : Int32) = 1 := by decide
  have n02 : ¬ (0 : Int32) = 2 := by decide
  have n12 : ¬ (1 : Int32) = 2 := by decide
  refine ev_run okX2_mayBear (by decide +kernel) (Nat.le_of_ble_eq_true rfl) 100 ?_
  -- behind the tests for 0 and 1
  have last : ¬ (k = 0 ∧ 0 < (nI a).toInt) → ¬ (k = 1 ∧ 0 < (nI b).toInt) → (¬ k = 2 → mayB N (nI a) (nI b) k = false) ∧ (k = 2 → nI N - nI a - nI b ≤ 0 → mayB N (nI a) (nI b) k = false) ∧ (k = 2 → ¬ nI N - nI a - nI b ≤ 0 → mayB N (nI a) (nI b) k = true) := by
    intro n0 n1
    refine ⟨fun q => (decide_eq_false ?_), fun q z => (decide_eq_false ?_), fun q z => (decide_eq_true ?_)⟩
    · rintro (w | w | w)
      · exact n0 w
      · exact n1 w
      · exact q w.1
    · rw [hsub] at z
      have z : nI (N - a - b) ≤ nI 0 := z
      rw [nI_leI (by omega) (by omega)] at z
      rintro (w | w | w)
      · exact n0 w
      · exact n1 w
      · rw [ta, tb] at w
        omega
    · rw [hsub] at z
      have z : ¬ nI (N - a - b) ≤ nI 0 := z
      rw [nI_leI (by omega) (by omega)] at z
      right; right
      refine ⟨q, ?_⟩
      rw [ta, tb]
      omega
  refine And.intro (fun k0 => ?_) (fun k0 => And.intro (fun pa => ?_) (fun pa => ?_))
  · refine And.intro (fun k1 => ?_) (fun k1 => And.intro (fun pb => ?_) (fun pb => ?_))
    · have L := last (fun w => k0 w.1) (fun w => k1 w.1)
      refine And.intro (fun q => no (L.1 q)) (fun q => And.intro (fun z => no (L.2.1 q z)) (fun z => yes (L.2.2 q z)))
    · exact yes (decide_eq_true (Or.inr (Or.inl ⟨k1, lt_T.mp pb⟩)))
    · have L := last (fun w => k0 w.1) (fun w => pb (lt_T.mpr w.2))
      refine And.intro (fun q => no (L.1 q)) (fun q => And.intro (fun z => no (L.2.1 q z)) (fun z => yes (L.2.2 q z)))
  · exact yes (decide_eq_true (Or.inl ⟨k0, lt_T.mp pa⟩))
  · refine And.intro (fun k1 => ?_) (fun k1 => absurd (k0.symm.trans k1) n01)
    have L := last (fun w => pa (lt_T.mpr w.2)) (fun w => k1 w.1)
    refine And.intro (fun q => no (L.1 q)) (fun q => And.intro (fun z => no (L.2.1 q z)) (fun z => yes (L.2.2 q z)))
def okMark (N : Nat) (x y k : Int32) : Bool := isPt N x y && mayB N x y k
def upM (mk : Nat → Nat → Nat) (a b v : Nat) : Nat → Nat → Nat := fun x y => if x = a ∧ y = b then v else mk x y
def sMark (N : Nat) (mk : Nat → Nat → Nat) (x y k : Int32) : Nat → Nat → Nat := if okMark N x y k = true then upM mk x.toInt.toNat y.toInt.toNat k.toInt.toNat else mk
def wMark (N : Nat) (w : Option wEnd) (x y k : Int32) : Option wEnd := if okMark N x y k = true then none else w
theorem mayB_k {N : Nat} {x y k : Int32} (h : mayB N x y k = true) : ∃ c : Nat, c ≤ 2 ∧ k = nI c ∧ k.toInt = (c : Int) := by
  rcases of_decide_eq_true h with w | w | w
  · exact ⟨0, by omega, w.1, by rw [w.1]; rfl⟩
  · exact ⟨1, by omega, w.1, by rw [w.1]; rfl⟩
  · exact ⟨2, by omega, w.1, by rw [w.1]; rfl⟩
theorem sMark_ok {N : Nat} {mk : Nat → Nat → Nat} (h : mkOk N mk) {a b c : Nat} (hab : a + b ≤ N) (hN : N ≤ 20) (hc : c ≤ 2) (hm : mayB N (nI a) (nI b) (nI c) = true) : mkOk N (upM mk a b c) := by
  intro x y hxy
  unfold upM
  by_cases e : x = a ∧ y = b
  · rw [if_pos e, e.1, e.2]
    have hm := of_decide_eq_true hm
    rw [nI_toInt (show a < 2 ^ 31 by omega), nI_toInt (show b < 2 ^ 31 by omega), show (0 : Int32) = nI 0 from rfl, show (1 : Int32) = nI 1 from rfl, show (2 : Int32) = nI 2 from rfl, nI_eq (by omega) (by omega), nI_eq (by omega) (by omega), nI_eq (by omega) (by omega)] at hm
    omega
  · rw [if_neg e]
    exact h x y hxy
theorem idx21_inj {a b x y : Nat} (h1 : b ≤ 20) (h2 : y ≤ 20) (e : 21 * a + b = 21 * x + y) : a = x ∧ b = y := by omega
theorem c_setMark (l : Launch) (N : Nat) (mk : Nat → Nat → Nat) (w : Option wEnd) (h : xH) (hH : TH N mk w h) (x y k : Int32) : Ev l zX2_setMark [.inr (6, 0), vI x, vI y, vI k] h (fun r h' => r = some (vI (b2i (okMark N x y k))) ∧ TH N (sMark N mk x y k) (wMark N w x y k) h') := by
  obtain ⟨ma, sz, wk, ax, ay, ak, ob, rfl, hB, hW⟩ := hH
  obtain ⟨hN1, h20, hok, rfl, hma⟩ := id hB
  have hbad : okMark N x y k = false → TH N (sMark N mk x y k) (wMark N w x y k) (ntH ma (nI N) wk ax ay ak ob) := fun q => by
    have e1 : sMark N mk x y k = mk := by unfold sMark; rw [q]; rfl
    have e2 : wMark N w x y k = w := by unfold wMark; rw [q]; rfl
    rw [e1, e2]
    exact ⟨ma, nI N, wk, ax, ay, ak, ob, rfl, hB, hW⟩
  refine ev_run okX2_setMark (by decide +kernel) (Nat.le_of_ble_eq_true rfl) 100 ?_
  refine ⟨[6, 7], _, c_isPoint l N h20 ma wk ax ay ak ob x y, fun r hc' hP _ => ?_⟩
  obtain ⟨rfl, rfl⟩ := hP
  refine And.intro (fun q => ?_) (fun q => ?_)
  · have e : okMark N x y k = false := by unfold okMark; rw [b2i0 q]; rfl
    exact And.intro (Or.inl rfl) (And.intro ⟨by rw [e]; rfl, hbad e⟩ rfl)
  · have q := b2i1 q
    obtain ⟨a, b, hab, rfl, rfl⟩ := isPt_of q
    refine ⟨[6, 7], _, c_mayBear l N h20 ma wk ax ay ak ob a b hab k, fun r hc' hP _ => ?_⟩
    obtain ⟨rfl, rfl⟩ := hP
    refine And.intro (fun z => ?_) (fun z => ?_)
    · have z := b2i1 z
      have e : okMark N (nI a) (nI b) k = true := by unfold okMark; rw [q, z]; rfl
      obtain ⟨c, hc2, rfl, hct⟩ := mayB_k z
      obtain ⟨i1, i2, i3⟩ := idx21 hab h20
      refine And.intro (by show vp_in (nI a * 21 + nI b) 441; rw [i1]; exact i3) (And.intro (Or.inl rfl) (And.intro (Or.inr rfl) (And.intro ⟨by rw [e]; rfl, ?_⟩ rfl)))
      have e1 : sMark N mk (nI a) (nI b) (nI c) = upM mk a b c := by
        unfold sMark
        rw [e, if_pos rfl, nI_toInt (by omega), nI_toInt (by omega), hct]
        rfl
      have e2 : wMark N w (nI a) (nI b) (nI c) = none := by unfold wMark; rw [e]; rfl
      rw [e1, e2]
      refine ⟨upd ma (nI a * 21 + nI b).toNatClampNeg (nI c), nI N, 0, ax, ay, ak, ob, rfl, ⟨hN1, h20, sMark_ok hok hab h20 hc2 z, rfl, fun x y hxy => ?_⟩, rfl⟩
      rw [i1, i2]
      unfold upM
      by_cases exy : x = a ∧ y = b
      · rw [if_pos exy, exy.1, exy.2, pk_us]
      · rw [if_neg exy, pk_un (fun w => exy (idx21_inj (by omega) (by omega) w)), hma x y hxy]
    · have z := b2i0 z
      have e : okMark N (nI a) (nI b) k = false := by unfold okMark; rw [z, Bool.and_false]
      exact And.intro (Or.inl rfl) (And.intro ⟨by rw [e]; rfl, hbad e⟩ rfl)
