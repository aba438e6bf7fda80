/-! ===== whole numbers, of 32 and 64 bits ===== -/
def zI (z : Int) : Int32 := Int32.ofInt z
def zL (z : Int) : Int64 := Int64.ofInt z
theorem zI_nat (k : Nat) : zI (k : Int) = nI k := Int32.ofInt_eq_ofNat
theorem zI_add (a b : Int) : zI a + zI b = zI (a + b) := (Int32.ofInt_add a b).symm
theorem zI_sub (a b : Int) : zI a - zI b = zI (a - b) := (Int32.ofInt_sub a b).symm
theorem zI_T {z : Int} (h1 : -2147483648 ≤ z) (h2 : z < 2147483648) : (zI z).toInt = z := Int32.toInt_ofInt_of_le (by omega) (by omega)
theorem zI_self (x : Int32) : zI x.toInt = x := Int32.ofInt_toInt x
theorem zL_add (a b : Int) : zL a + zL b = zL (a + b) := (Int64.ofInt_add a b).symm
theorem zL_sub (a b : Int) : zL a - zL b = zL (a - b) := (Int64.ofInt_sub a b).symm
theorem zL_mul (a b : Int) : zL a * zL b = zL (a * b) := (Int64.ofInt_mul a b).symm
theorem zL_T {z : Int} (h1 : -9223372036854775808 ≤ z) (h2 : z < 9223372036854775808) : (zL z).toInt = z := Int64.toInt_ofInt_of_le (by omega) (by omega)
theorem zL_32 (x : Int32) : x.toInt64 = zL x.toInt := (Int64.ofInt_int32ToInt x).symm
theorem zL_zI {z : Int} (h1 : -2147483648 ≤ z) (h2 : z < 2147483648) : (zI z).toInt64 = zL z := by rw [zL_32, zI_T h1 h2]
theorem zL_nI {k : Nat} (h : k < 2 ^ 31) : (nI k).toInt64 = zL (k : Int) := by rw [zL_32, nI_toInt h]
theorem ltL_T {x y : Int64} : x < y ↔ x.toInt < y.toInt := Int64.lt_iff_toInt_lt
theorem leL_T {x y : Int64} : x ≤ y ↔ x.toInt ≤ y.toInt := Int64.le_iff_toInt_le
theorem us_L {f : Nat → Int64} {k : Nat} {x : Int64} : vp_updL f k x k = x := if_pos rfl
theorem un_L {f : Nat → Int64} {k j : Nat} {x : Int64} (h : j ≠ k) : vp_updL f k x j = f j := if_neg h
/-! ===== the class Rooms ===== -/
abbrev gA (id n k : Nat) (M : Nat → Nat → Int32) : Nat × xC := (id, .inl (3, n, k, .inr (.inr M)))
abbrev rmO (ct re gr se : Int32) : Nat × xC := (8, .inr (3, [.inr (9, 0), .inr (10, 0), .inr (11, 0), .inr (12, 0), .inr (13, 0), .inr (14, 0), vI ct, vI re, vI gr, vI se]))
abbrev rmH (M : Nat → Nat → Int32) (tr ow be : Nat → Int32) (pr : Nat → Int64) (mo : Nat → Int32) (ct re gr se : Int32) : xH := [rmO ct re gr se, gA 9 5 5 M, iA 10 5 tr, iA 11 5 ow, iA 12 5 be, lA 13 5 pr, iA 14 5 mo]
/-- one of n -/
def is1 (n : Nat) (x : Int32) : Bool := decide (0 ≤ x.toInt ∧ x.toInt < (n : Int))
theorem is1_of {n : Nat} {x : Int32} (h : is1 n x = true) : ∃ k : Nat, k < n ∧ x = nI k ∧ x.toInt = (k : Int) := by
  have q := of_decide_eq_true h
  obtain ⟨k, hk, e, t⟩ := nI_arg (x := x) q.1
  exact ⟨k, by omega, e, t⟩
theorem is1_nI {n k : Nat} (h : k < n) (hn : n ≤ 5) : is1 n (nI k) = true := by
  apply decide_eq_true
  rw [nI_toInt (by omega)]
  omega
theorem c_isOne3 (l : Launch) (n : Nat) (hn : n ≤ 5) (re gr se x : Int32) : Ev l zX3_isOne [.inr (8, 0), vI x] [rmO (nI n) re gr se] (fun r h' => r = some (vI (b2i (is1 n x))) ∧ h' = [rmO (nI n) re gr se]) := by
  have hT : (nI n).toInt = (n : Int) := nI_toInt (by omega)
  refine ev_run okX3_isOne (by decide +kernel) (Nat.le_of_ble_eq_true rfl) 60 ?_
  refine And.intro (fun q => ?_) (fun q => And.intro (fun q2 => ?_) (fun q2 => ?_))
  · have q : x.toInt < 0 := lt_T.mp q
    have e : is1 n x = false := decide_eq_false (by omega)
    exact And.intro (Or.inl rfl) (And.intro ⟨by rw [e]; rfl, rfl⟩ rfl)
  · have q2 : (nI n).toInt ≤ x.toInt := le_T.mp q2
    rw [hT] at q2
    have e : is1 n x = false := decide_eq_false (by omega)
    exact And.intro (Or.inl rfl) (And.intro ⟨by rw [e]; rfl, rfl⟩ rfl)
  · have q : ¬ x.toInt < 0 := fun w => q (lt_T.mpr w)
    have q2 : ¬ (nI n).toInt ≤ x.toInt := fun w => q2 (le_T.mpr w)
    rw [hT] at q2
    have e : is1 n x = true := decide_eq_true (by omega)
    exact And.intro (Or.inr rfl) (And.intro ⟨by rw [e]; rfl, rfl⟩ rfl)
theorem c_beginAnew (l : Launch) (ct re gr se : Int32) (mo : Nat → Int32) : Ev l zX3_beginAnew [.inr (8, 0)] [rmO ct re gr se, iA 14 5 mo] (fun r h' => r = none ∧ h' = [rmO ct re gr 0, iA 14 5 (x_fill 5 0 mo)]) := by
  refine ev_run okX3_beginAnew (by decide +kernel) (Nat.le_of_ble_eq_true rfl) 60 ?_
  exact And.intro (Or.inl rfl) (And.intro (by decide) (And.intro ⟨rfl, rfl⟩ rfl))
/-- what is held of the rooms -/
def RB (n : Nat) (W : Nat → Nat → Nat) (rent : Nat) (mo : Nat → Int) (M : Nat → Nat → Int32) (mo' : Nat → Int32) (ct re : Int32) : Prop := 1 ≤ n ∧ n ≤ 5 ∧ rent ≤ 10000 ∧ ct = nI n ∧ re = nI rent ∧ (∀ i j, i < n → j < n → W i j ≤ 1000 ∧ M i j = nI (W i j)) ∧ (∀ r, r < n → -100000 ≤ mo r ∧ mo r ≤ 100000 ∧ mo' r = zI (mo r))
def RS (n : Nat) (W : Nat → Nat → Nat) (rent : Nat) (ow' : Nat → Int32) (pr : Nat → Int64) (gr se : Int32) : Prop := se = 0 ∨ (se = 1 ∧ gr = nI (sW W n (bX W n)) ∧ (∀ k, k < n → ow' k = nI (ow W n k)) ∧ ∀ r, r < n → pr r = zL (prc W n rent r))
def RH (n : Nat) (W : Nat → Nat → Nat) (rent : Nat) (mo : Nat → Int) (h : xH) : Prop := ∃ (M : Nat → Nat → Int32) (tr ow' be : Nat → Int32) (pr : Nat → Int64) (mo' : Nat → Int32) (ct re gr se : Int32), h = rmH M tr ow' be pr mo' ct re gr se ∧ RB n W rent mo M mo' ct re ∧ RS n W rent ow' pr gr se
/-! what the calls do to the rooms -/
def mo0 : Nat → Int := fun _ => 0
def W0 : Nat → Nat → Nat := fun _ _ => 0
def okRoom (n : Nat) (p r w : Int32) : Bool := is1 n p && is1 n r && decide (0 ≤ w.toInt ∧ w.toInt ≤ 1000)
def sRoom (n : Nat) (W : Nat → Nat → Nat) (p r w : Int32) : Nat → Nat → Nat := if okRoom n p r w = true then upM W p.toInt.toNat r.toInt.toNat w.toInt.toNat else W
def moIf (b : Bool) (mo : Nat → Int) : Nat → Int := if b = true then mo0 else mo
def okRent (w : Int32) : Bool := decide (0 ≤ w.toInt ∧ w.toInt ≤ 10000)
def sRent (rent : Nat) (w : Int32) : Nat := if okRent w = true then w.toInt.toNat else rent
def okTurn (n : Nat) (r w : Int32) : Bool := is1 n r && decide (-100000 ≤ w.toInt ∧ w.toInt ≤ 100000)
def upZ (f : Nat → Int) (k : Nat) (v : Int) : Nat → Int := fun j => if j = k then v else f j
def sTurn (n : Nat) (mo : Nat → Int) (r w : Int32) : Nat → Int := if okTurn n r w = true then upZ mo r.toInt.toNat w.toInt else mo
theorem x_fill_in {n : Nat} {v : Int32} {f : Nat → Int32} {j : Nat} (h : j < n) : x_fill n v f j = v := by
  unfold x_fill
  rw [if_pos h]
theorem RB_fill {n : Nat} {W : Nat → Nat → Nat} {rent : Nat} {mo : Nat → Int} {M : Nat → Nat → Int32} {mo' : Nat → Int32} {ct re : Int32} (h : RB n W rent mo M mo' ct re) : RB n W rent mo0 M (x_fill 5 0 mo') ct re := by
  obtain ⟨h1, h2, h3, h4, h5, h6, h7⟩ := h
  refine ⟨h1, h2, h3, h4, h5, h6, fun r hr => ⟨by show (-100000 : Int) ≤ 0; omega, by show (0 : Int) ≤ 100000; omega, ?_⟩⟩
  rw [x_fill_in (by omega)]
  rfl
theorem c_setRent (l : Launch) (n : Nat) (W : Nat → Nat → Nat) (rent : Nat) (mo : Nat → Int) (h : xH) (hH : RH n W rent mo h) (w : Int32) : Ev l zX3_setRent [.inr (8, 0), vI w] h (fun r h' => r = some (vI (b2i (okRent w))) ∧ RH n W (sRent rent w) (moIf (okRent w) mo) h') := by
  obtain ⟨M, tr, ow', be, pr, mo', ct, re, gr, se, rfl, hB, hS⟩ := hH
  have no : okRent w = false → RH n W (sRent rent w) (moIf (okRent w) mo) (rmH M tr ow' be pr mo' ct re gr se) := fun q => by
    unfold sRent moIf
    rw [q]
    exact ⟨M, tr, ow', be, pr, mo', ct, re, gr, se, rfl, hB, hS⟩
  refine ev_run okX3_setRent (by decide +kernel) (Nat.le_of_ble_eq_true rfl) 60 ?_
  refine And.intro (fun q => ?_) (fun q => And.intro (fun q2 => ?_) (fun q2 => ?_))
  · have q : w.toInt < 0 := lt_T.mp q
    have e : okRent w = false := decide_eq_false (by omega)
    exact And.intro (Or.inl rfl) (And.intro ⟨by rw [e]; rfl, no e⟩ rfl)
  · have q : ¬ w.toInt < 0 := fun z => q (lt_T.mpr z)
    have q2 : w.toInt ≤ 10000 := le_T.mp q2
    have e : okRent w = true := decide_eq_true (by omega)
    obtain ⟨k, hk, rfl, hkt⟩ := nI_arg (x := w) (by omega)
    refine ⟨[8, 14], _, c_beginAnew l ct (nI k) gr se mo', fun r hc' hP _ => ?_⟩
    obtain ⟨rfl, rfl⟩ := hP
    refine And.intro (Or.inr rfl) (And.intro ⟨by rw [e]; rfl, ?_⟩ rfl)
    have e1 : sRent rent (nI k) = k := by unfold sRent; rw [e, if_pos rfl, hkt]; rfl
    have e2 : moIf (okRent (nI k)) mo = mo0 := by unfold moIf; rw [e]; rfl
    rw [e1, e2]
    obtain ⟨h1, h2, h3, h4, h5, h6, h7⟩ := hB
    exact ⟨M, tr, ow', be, pr, x_fill 5 0 mo', ct, nI k, gr, 0, rfl, RB_fill (mo := mo) ⟨h1, h2, by omega, h4, rfl, h6, h7⟩, Or.inl rfl⟩
  · have q2 : ¬ w.toInt ≤ 10000 := fun z => q2 (le_T.mpr z)
    have e : okRent w = false := decide_eq_false (by omega)
    exact And.intro (Or.inl rfl) (And.intro ⟨by rw [e]; rfl, no e⟩ rfl)
theorem c_setMore (l : Launch) (n : Nat) (W : Nat → Nat → Nat) (rent : Nat) (mo : Nat → Int) (h : xH) (hH : RH n W rent mo h) (x w : Int32) : Ev l zX3_setMore [.inr (8, 0), vI x, vI w] h (fun r h' => r = some (vI (b2i (okTurn n x w))) ∧ RH n W rent (sTurn n mo x w) h') := by
  obtain ⟨M, tr, ow', be, pr, mo', ct, re, gr, se, rfl, hB, hS⟩ := hH
  have no : okTurn n x w = false → RH n W rent (sTurn n mo x w) (rmH M tr ow' be pr mo' ct re gr se) := fun q => by
    unfold sTurn
    rw [q]
    exact ⟨M, tr, ow', be, pr, mo', ct, re, gr, se, rfl, hB, hS⟩
  obtain ⟨h1, h2, h3, rfl, h5, h6, h7⟩ := id hB
  have tlo : (-100000 : Int32).toInt = -100000 := by decide
  have thi : (100000 : Int32).toInt = 100000 := by decide
  refine ev_run okX3_setMore (by decide +kernel) (Nat.le_of_ble_eq_true rfl) 60 ?_
  refine ⟨[8], _, c_isOne3 l n h2 re gr se x, fun r hc' hP _ => ?_⟩
  obtain ⟨rfl, rfl⟩ := hP
  refine And.intro (fun q => ?_) (fun q => And.intro (fun q1 => ?_) (fun q1 => And.intro (fun q2 => ?_) (fun q2 => ?_)))
  · have e : okTurn n x w = false := by unfold okTurn; rw [b2i0 q]; rfl
    exact And.intro (Or.inl rfl) (And.intro ⟨by rw [e]; rfl, no e⟩ rfl)
  · have q1 : w.toInt < (-100000 : Int32).toInt := lt_T.mp q1
    rw [tlo] at q1
    have e : okTurn n x w = false := by unfold okTurn; rw [decide_eq_false (by omega), Bool.and_false]
    exact And.intro (Or.inl rfl) (And.intro ⟨by rw [e]; rfl, no e⟩ rfl)
  · have q1 : ¬ w.toInt < (-100000 : Int32).toInt := fun z => q1 (lt_T.mpr z)
    have q2 : w.toInt ≤ (100000 : Int32).toInt := le_T.mp q2
    rw [tlo] at q1
    rw [thi] at q2
    have q := b2i1 q
    have e : okTurn n x w = true := by unfold okTurn; rw [q, decide_eq_true (by omega)]; rfl
    obtain ⟨k, hk, rfl, hkt⟩ := is1_of q
    refine And.intro (vp_in_nI (by omega) (by omega)) (And.intro (Or.inr rfl) (And.intro ⟨by rw [e]; rfl, ?_⟩ rfl))
    have e1 : sTurn n mo (nI k) w = upZ mo k w.toInt := by unfold sTurn; rw [e, if_pos rfl, hkt]; rfl
    rw [e1]
    refine ⟨M, tr, ow', be, pr, upd mo' (nI k).toNatClampNeg w, nI n, re, gr, se, rfl, ⟨h1, h2, h3, rfl, h5, h6, fun r hr => ?_⟩, hS⟩
    rw [nI_clamp (by omega)]
    unfold upZ
    by_cases er : r = k
    · subst er
      rw [if_pos rfl, pk_us, zI_self]
      exact ⟨by omega, by omega, rfl⟩
    · rw [if_neg er, pk_un er]
      exact h7 r hr
  · have q2 : ¬ w.toInt ≤ (100000 : Int32).toInt := fun z => q2 (le_T.mpr z)
    rw [thi] at q2
    have e : okTurn n x w = false := by unfold okTurn; rw [decide_eq_false (by omega), Bool.and_false]
    exact And.intro (Or.inl rfl) (And.intro ⟨by rw [e]; rfl, no e⟩ rfl)
theorem upM_ok {n : Nat} {W : Nat → Nat → Nat} {M : Nat → Nat → Int32} (h : ∀ i j, i < n → j < n → W i j ≤ 1000 ∧ M i j = nI (W i j)) {a b c : Nat} (hc : c ≤ 1000) : ∀ i j, i < n → j < n → upM W a b c i j ≤ 1000 ∧ x_row M a (upd (M a) b (nI c)) i j = nI (upM W a b c i j) := by
  intro i j hi hj
  unfold upM x_row
  by_cases e : i = a
  · subst e
    rw [if_pos rfl]
    by_cases e2 : j = b
    · subst e2
      rw [if_pos ⟨rfl, rfl⟩, pk_us]
      exact ⟨hc, rfl⟩
    · rw [if_neg (fun w => e2 w.2), pk_un e2]
      exact h i j hi hj
  · rw [if_neg e, if_neg (fun w => e w.1)]
    exact h i j hi hj
theorem c_setWorth3 (l : Launch) (n : Nat) (W : Nat → Nat → Nat) (rent : Nat) (mo : Nat → Int) (h : xH) (hH : RH n W rent mo h) (p r w : Int32) : Ev l zX3_setWorth [.inr (8, 0), vI p, vI r, vI w] h (fun v h' => v = some (vI (b2i (okRoom n p r w))) ∧ RH n (sRoom n W p r w) rent (moIf (okRoom n p r w) mo) h') := by
  obtain ⟨M, tr, ow', be, pr, mo', ct, re, gr, se, rfl, hB, hS⟩ := hH
  have no : okRoom n p r w = false → RH n (sRoom n W p r w) rent (moIf (okRoom n p r w) mo) (rmH M tr ow' be pr mo' ct re gr se) := fun q => by
    unfold sRoom moIf
    rw [q]
    exact ⟨M, tr, ow', be, pr, mo', ct, re, gr, se, rfl, hB, hS⟩
  obtain ⟨h1, h2, h3, rfl, h5, h6, h7⟩ := id hB
  refine ev_run okX3_setWorth (by decide +kernel) (Nat.le_of_ble_eq_true rfl) 60 ?_
  refine ⟨[8], _, c_isOne3 l n h2 re gr se p, fun v hc' hP _ => ?_⟩
  obtain ⟨rfl, rfl⟩ := hP
  refine And.intro (fun q => ?_) (fun q => ?_)
  · have e : okRoom n p r w = false := by unfold okRoom; rw [b2i0 q]; rfl
    exact And.intro (Or.inl rfl) (And.intro ⟨by rw [e]; rfl, no e⟩ rfl)
  refine ⟨[8], _, c_isOne3 l n h2 re gr se r, fun v hc' hP _ => ?_⟩
  obtain ⟨rfl, rfl⟩ := hP
  refine And.intro (fun q1 => ?_) (fun q1 => And.intro (fun q2 => ?_) (fun q2 => And.intro (fun q3 => ?_) (fun q3 => ?_)))
  · have e : okRoom n p r w = false := by unfold okRoom; rw [b2i0 q1, Bool.and_false]; rfl
    exact And.intro (Or.inl rfl) (And.intro ⟨by rw [e]; rfl, no e⟩ rfl)
  · have q2 : w.toInt < 0 := lt_T.mp q2
    have e : okRoom n p r w = false := by unfold okRoom; rw [decide_eq_false (by omega), Bool.and_false]
    exact And.intro (Or.inl rfl) (And.intro ⟨by rw [e]; rfl, no e⟩ rfl)
  · have q2 : ¬ w.toInt < 0 := fun z => q2 (lt_T.mpr z)
    have q3 : w.toInt ≤ 1000 := le_T.mp q3
    have q := b2i1 q
    have q1 := b2i1 q1
    have e : okRoom n p r w = true := by unfold okRoom; rw [q, q1, decide_eq_true (by omega)]; rfl
    obtain ⟨a, ha, rfl, hat⟩ := is1_of q
    obtain ⟨b, hb, rfl, hbt⟩ := is1_of q1
    obtain ⟨c, hc, rfl, hct⟩ := nI_arg (x := w) (by omega)
    have ca : (nI a).toNatClampNeg = a := nI_clamp (by omega)
    have cb : (nI b).toNatClampNeg = b := nI_clamp (by omega)
    refine And.intro (vp_in_nI (by omega) (by omega)) (And.intro (by rw [ca]; omega) (And.intro (vp_in_nI (by omega) (by omega)) ?_))
    refine ⟨[8, 14], _, c_beginAnew l (nI n) re gr se mo', fun r hc' hP _ => ?_⟩
    obtain ⟨rfl, rfl⟩ := hP
    refine And.intro (Or.inr rfl) (And.intro ⟨by rw [e]; rfl, ?_⟩ rfl)
    have e1 : sRoom n W (nI a) (nI b) (nI c) = upM W a b c := by unfold sRoom; rw [e, if_pos rfl, hat, hbt, hct]; rfl
    have e2 : moIf (okRoom n (nI a) (nI b) (nI c)) mo = mo0 := by unfold moIf; rw [e]; rfl
    rw [e1, e2]
    refine ⟨x_row M a (upd (M a) b (nI c)), tr, ow', be, pr, x_fill 5 0 mo', nI n, re, gr, 0, ?_, RB_fill (mo := mo) ⟨h1, h2, h3, rfl, h5, upM_ok h6 (by omega), h7⟩, Or.inl rfl⟩
    show rmH (x_row M (nI a).toNatClampNeg (upd (M (nI a).toNatClampNeg) (nI b).toNatClampNeg (nI c))) tr ow' be pr (x_fill 5 0 mo') (nI n) re gr 0 = _
    rw [ca, cb]
  · have q3 : ¬ w.toInt ≤ 1000 := fun z => q3 (le_T.mpr z)
    have e : okRoom n p r w = false := by unfold okRoom; rw [decide_eq_false (by omega), Bool.and_false]
    exact And.intro (Or.inl rfl) (And.intro ⟨by rw [e]; rfl, no e⟩ rfl)
/-- all rows up to j are cleared -/
theorem c_invite3 (l : Launch) (n : Nat) (W : Nat → Nat → Nat) (rent : Nat) (mo : Nat → Int) (h : xH) (hH : RH n W rent mo h) (m : Nat) (hm1 : 1 ≤ m) (hm : m ≤ 5) (x : Int32) (hx : x = nI m) : Ev l zX3_invite [.inr (8, 0), vI x] h (fun v h' => v = none ∧ RH m W0 0 mo0 h') := by
  subst hx
  obtain ⟨M, tr, ow', be, pr, mo', ct, re, gr, se, rfl, hB, hS⟩ := hH
  refine ev_all okX3_invite (by decide +kernel) (Nat.le_of_ble_eq_true rfl) ?_
  intro K hK
  have loop : ∀ (e j : Nat), j + e = 5 → ∀ (M : Nat → Nat → Int32), (∀ a b, a < j → b < 5 → M a b = 0) → ∀ J : Int32, J = nI j → K 12 [(0, .inr (8, 0)), (1, vI (nI m)), (2, vI J)] [] (rmH M tr ow' be pr mo' (nI m) 0 gr se) := by
    intro e
    induction e with
    | zero =>
      intro j hj M hM J hJ
      have hj : j = 5 := hj
      subst hj; subst hJ
      refine hK [] 60 12 _ _ _ ?_
      refine And.intro (fun _ => ?_) (fun z => absurd (Int32.le_refl _) z)
      refine ⟨[8, 14], _, c_beginAnew l (nI m) 0 gr se mo', fun r hc' hP _ => ?_⟩
      obtain ⟨rfl, rfl⟩ := hP
      refine And.intro ⟨rfl, ?_⟩ rfl
      refine ⟨M, tr, ow', be, pr, x_fill 5 0 mo', nI m, 0, gr, 0, rfl, ⟨hm1, hm, by omega, rfl, rfl, fun i j hi hj => ⟨by show 0 ≤ 1000; omega, ?_⟩, fun r hr => ⟨by show (-100000 : Int) ≤ 0; omega, by show (0 : Int) ≤ 100000; omega, ?_⟩⟩, Or.inl rfl⟩
      · rw [hM i j (by omega) (by omega)]
        rfl
      · rw [x_fill_in (by omega)]
        rfl
    | succ e ih =>
      intro j hj M hM J hJ
      subst hJ
      have cj : (nI j).toNatClampNeg = j := nI_clamp (by omega)
      refine hK [(12, [0, 1, 2])] 60 12 _ _ _ ?_
      refine And.intro (fun z => absurd (show nI 5 ≤ nI j from z) (nI_ge (by omega) (by omega))) (fun _ => ?_)
      refine And.intro (vp_in_nI (by omega) (by omega)) (And.intro (by rw [cj]; omega) (And.intro (by decide) ?_))
      refine ih (j + 1) (by omega) (x_row M (nI j).toNatClampNeg (x_fill 5 0 (M (nI j).toNatClampNeg))) (fun a b ha hb => ?_) _ (nI_1 j)
      rw [cj]
      unfold x_row
      by_cases e : a = j
      · rw [if_pos e, x_fill_in hb]
      · rw [if_neg e]
        exact hM a b (by omega) hb
  refine hK [(12, [0, 1, 2])] 60 0 _ _ _ ?_
  exact loop 5 0 (by omega) M (fun a b ha => absurd ha (Nat.not_lt_zero a)) 0 rfl
