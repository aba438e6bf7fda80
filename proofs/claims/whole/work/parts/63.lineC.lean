/-! ===== the class Line ===== -/
def kL (k : Nat) : Int64 := Int64.ofNat k
theorem kL_add (a b : Nat) : kL a + kL b = kL (a + b) := (Int64.ofNat_add a b).symm
theorem kL_mul (a b : Nat) : kL a * kL b = kL (a * b) := (Int64.ofNat_mul a b).symm
theorem kL_sub {a b : Nat} (h : b ≤ a) : kL a - kL b = kL (a - b) := (Int64.ofNat_sub a b h).symm
theorem kL_T {k : Nat} (h : k < 2 ^ 63) : (kL k).toInt = (k : Int) := by
  show (Int64.ofNat k).toInt = _
  rw [← Int64.ofInt_eq_ofNat]
  exact Int64.toInt_ofInt_of_le (by omega) (by omega)
theorem kL_eq {a b : Nat} (ha : a < 2 ^ 63) (hb : b < 2 ^ 63) : kL a = kL b ↔ a = b := by
  constructor
  · intro h
    have := congrArg Int64.toInt h
    rw [kL_T ha, kL_T hb] at this
    omega
  · intro h
    rw [h]
theorem kL_lt {a b : Nat} (ha : a < 2 ^ 63) (hb : b < 2 ^ 63) : kL a < kL b ↔ a < b := by
  rw [ltL_T, kL_T ha, kL_T hb]
  omega
theorem kL_le {a b : Nat} (ha : a < 2 ^ 63) (hb : b < 2 ^ 63) : kL a ≤ kL b ↔ a ≤ b := by
  rw [leL_T, kL_T ha, kL_T hb]
  omega
theorem kL_div {a b : Nat} (ha : a < 2 ^ 63) (hb : b < 2 ^ 63) : kL a / kL b = kL (a / b) := (Int64.ofNat_div ha hb).symm
theorem kL_rem {a b : Nat} (ha : a < 2 ^ 63) (hb : b < 2 ^ 63) : kL a - kL a / kL b * kL b = kL (a % b) := by
  rw [kL_div ha hb, kL_mul, kL_sub (Nat.div_mul_le_self a b)]
  congr 1
  have := Nat.div_add_mod a b
  rw [Nat.mul_comm] at this
  omega
theorem kL_nI {k : Nat} (h : k < 2 ^ 31) : (nI k).toInt64 = kL k := by
  apply Int64.toInt_inj.mp
  rw [Int32.toInt_toInt64, nI_toInt h, kL_T (by omega)]
theorem kL_toI {k : Nat} (h : k < 2 ^ 31) : (kL k).toInt32 = nI k := by
  apply Int32.toInt_inj.mp
  rw [Int64.toInt_toInt32, kL_T (by omega), nI_toInt h]
  exact bmod_in (by omega) (by omega)
theorem kL_n0 {k : Nat} (h1 : 0 < k) (h : k < 2 ^ 63) : ¬ kL k = 0 := by
  intro e
  have := (kL_eq (a := k) (b := 0) h (by omega)).mp e
  omega
theorem gcd_step (a b : Nat) : Nat.gcd a b = Nat.gcd b (a % b) := by
  rw [Nat.gcd_comm a b, Nat.gcd_rec b a, Nat.gcd_comm]
theorem rem_half {b r m : Nat} (hr : 0 < r) (hrb : r < b) (hb : b < 2 ^ (m + 1)) : b % r < 2 ^ m := by
  have h1 := Nat.mod_lt b hr
  have h2 := Nat.div_add_mod b r
  have h3 : 1 ≤ b / r := Nat.div_pos (Nat.le_of_lt hrb) hr
  have h4 : r * 1 ≤ r * (b / r) := Nat.mul_le_mul_left r h3
  rw [Nat.pow_succ] at hb
  omega
theorem c_gcd (l : Launch) (a b : Nat) (ha : a < 2 ^ 62) (hb : b < 2 ^ 40) (x y : Int64) (hx : x = kL a) (hy : y = kL b) : Ev l zX0_greatestCommon [vL x, vL y] [] (fun r h' => r = some (vL (kL (Nat.gcd a b))) ∧ h' = []) := by
  subst hx; subst hy
  refine ev_all okX0_greatestCommon (by decide +kernel) (Nat.le_of_ble_eq_true rfl) ?_
  intro K hK
  have stop : ∀ (c t : Nat), t < 100 → Nat.gcd a b = c → ∀ T : Int32, T = nI t → K 3 [(0, vL (kL c)), (2, vL (kL 0)), (4, vI T)] [] [] := by
    intro c t ht hc T hT
    subst hT
    refine hK [] 60 3 _ _ _ ?_
    refine And.intro (fun z => absurd (show nI 100 ≤ nI t from z) (nI_ge (by omega) (by omega))) (fun _ => ?_)
    refine And.intro (fun _ => ?_) (fun z => absurd rfl z)
    exact And.intro ⟨by rw [hc], rfl⟩ rfl
  have one : ∀ (c d t : Nat), t < 100 → c < 2 ^ 62 → 0 < d → d < 2 ^ 62 → ∀ T : Int32, T = nI t → (∀ T : Int32, T = nI (t + 1) → K 3 [(0, vL (kL d)), (2, vL (kL (c % d))), (4, vI T)] [] []) → K 3 [(0, vL (kL c)), (2, vL (kL d)), (4, vI T)] [] [] := by
    intro c d t ht hc hd0 hd T hT next
    subst hT
    refine hK [(3, [0, 2, 4])] 60 3 _ _ _ ?_
    refine And.intro (fun z => absurd (show nI 100 ≤ nI t from z) (nI_ge (by omega) (by omega))) (fun _ => ?_)
    refine And.intro (fun z => absurd z (kL_n0 hd0 (by omega))) (fun _ => ?_)
    refine And.intro (kL_n0 hd0 (by omega)) ?_
    have g := next _ (nI_1 t)
    rw [← kL_rem (by omega) (by omega)] at g
    exact g
  have go : ∀ (m c d t : Nat), d < 2 ^ m → t + 2 * m < 99 → c < 2 ^ 62 → d < 2 ^ 62 → Nat.gcd a b = Nat.gcd c d → ∀ T : Int32, T = nI t → K 3 [(0, vL (kL c)), (2, vL (kL d)), (4, vI T)] [] [] := by
    intro m
    induction m with
    | zero =>
      intro c d t hd ht hc hd2 hg T hT
      have hd : d = 0 := by
        rw [Nat.pow_zero] at hd
        omega
      subst hd
      rw [Nat.gcd_zero_right] at hg
      exact stop c t (by omega) hg T hT
    | succ m ih =>
      intro c d t hd ht hc hd2 hg T hT
      by_cases d0 : d = 0
      · subst d0
        rw [Nat.gcd_zero_right] at hg
        exact stop c t (by omega) hg T hT
      · have hr := Nat.mod_lt c (show 0 < d by omega)
        rw [gcd_step c d] at hg
        refine one c d t (by omega) hc (by omega) hd2 T hT (fun T1 hT1 => ?_)
        by_cases r0 : c % d = 0
        · rw [r0] at hg ⊢
          rw [Nat.gcd_zero_right] at hg
          exact stop d (t + 1) (by omega) hg T1 hT1
        · rw [gcd_step d (c % d)] at hg
          refine one d (c % d) (t + 1) (by omega) (by omega) (by omega) (by omega) T1 hT1 (fun T2 hT2 => ?_)
          have hh := rem_half (by omega) hr hd
          have hlt := Nat.mod_lt d (show 0 < c % d by omega)
          exact ih (c % d) (d % (c % d)) (t + 1 + 1) hh (by omega) (by omega) (by omega) hg T2 hT2
  refine hK [(3, [0, 2, 4])] 60 0 _ _ _ ?_
  exact go 40 a b 0 hb (by omega) ha (by omega) rfl 0 rfl
abbrev bA (id n : Nat) (f : Nat → Int32) : Nat × xC := (id, .inl (2, n, 0, .inl f))
abbrev lnO (ct st : Int32) (un : Int64) (sh : Int32) (sd sf : Int64) : Nat × xC := (15, .inr (0, [.inr (16, 0), .inr (17, 0), .inr (18, 0), .inr (19, 0), .inr (20, 0), vI ct, vI st, vL un, vI sh, vL sd, vL sf]))
abbrev lnH (M Ah : Nat → Nat → Int32) (En : Nat → Int64) (Ho Sv : Nat → Int32) (ct st : Int32) (un : Int64) (sh : Int32) (sd sf : Int64) : xH := [lnO ct st un sh sd sf, gA 16 5 30 M, gA 17 5 31 Ah, lA 18 6 En, iA 19 5 Ho, bA 20 5 Sv]
def qRd (a U : Nat) (w : Int32) : Int64 := if w.toInt = 0 then kL (rdN a U) else if w.toInt = 1 then kL (rdD a U) else -1
theorem c_least (l : Launch) (a U : Nat) (ha : a < 2 ^ 62) (hU1 : 1 ≤ U) (hU : U ≤ 4050000) (ct st sh : Int32) (sd sf : Int64) (w : Int32) (x : Int64) (hx : x = kL a) : Ev l zX0_inLeastTerms [.inr (15, 0), vL x, vI w] [lnO ct st (kL U) sh sd sf] (fun r h' => r = some (vL (qRd a U w)) ∧ h' = [lnO ct st (kL U) sh sd sf]) := by
  subst hx
  have hg : 0 < Nat.gcd a U := Nat.gcd_pos_of_pos_right a (by omega)
  have hgU : Nat.gcd a U ≤ U := Nat.le_of_dvd (by omega) (Nat.gcd_dvd_right a U)
  have hne : ¬ kL (Nat.gcd a U) = 0 := kL_n0 hg (by omega)
  refine ev_run okX0_inLeastTerms (by decide +kernel) (Nat.le_of_ble_eq_true rfl) 60 ?_
  refine ⟨[], _, c_gcd l a U ha (by omega) _ _ rfl rfl, fun r hc' hP _ => ?_⟩
  obtain ⟨rfl, rfl⟩ := hP
  have t0 : (w = 0) → w.toInt = 0 := fun e => by rw [e]; rfl
  have t1 : (w = 1) → w.toInt = 1 := fun e => by rw [e]; rfl
  have i0 : w.toInt = 0 → w = 0 := fun e => Int32.toInt_inj.mp e
  have i1 : w.toInt = 1 → w = 1 := fun e => Int32.toInt_inj.mp e
  refine And.intro (fun z => absurd z hne) (fun _ => ?_)
  refine And.intro (fun z => ?_) (fun z => And.intro (fun z1 => ?_) (fun z1 => ?_))
  · refine And.intro (fun v => absurd z v) (fun _ => ?_)
    refine And.intro hne (And.intro ⟨?_, rfl⟩ rfl)
    unfold qRd
    rw [if_pos (t0 z)]
    show some (vL (kL a / kL (Nat.gcd a U))) = _
    rw [kL_div (by omega) (by omega)]
    rfl
  · refine And.intro (fun _ => ?_) (fun v => absurd v z)
    refine And.intro hne (And.intro ⟨?_, rfl⟩ rfl)
    unfold qRd
    rw [if_neg (fun e => z (i0 e)), if_pos (t1 z1)]
    show some (vL (kL U / kL (Nat.gcd a U))) = _
    rw [kL_div (by omega) (by omega)]
    rfl
  · refine And.intro ⟨?_, rfl⟩ rfl
    unfold qRd
    rw [if_neg (fun e => z (i0 e)), if_neg (fun e => z1 (i1 e))]
theorem c_isOne0 (l : Launch) (n : Nat) (hn : n ≤ 5) (st : Int32) (un : Int64) (sh : Int32) (sd sf : Int64) (x : Int32) : Ev l zX0_isOne [.inr (15, 0), vI x] [lnO (nI n) st un sh sd sf] (fun r h' => r = some (vI (b2i (is1 n x))) ∧ h' = [lnO (nI n) st un sh sd sf]) := by
  have hT : (nI n).toInt = (n : Int) := nI_toInt (by omega)
  refine ev_run okX0_isOne (by decide +kernel) (Nat.le_of_ble_eq_true rfl) 60 ?_
  refine And.intro (fun q => ?_) (fun q => And.intro (fun q2 => ?_) (fun q2 => ?_))
  · have q : x.toInt < 0 := lt_T.mp q
    have e : is1 n x = false := decide_eq_false (by omega)
    exact And.intro (Or.inl rfl) (And.intro ⟨by rw [e]; rfl, rfl⟩ rfl)
  · have q2 : (nI n).toInt ≤ x.toInt := le_T.mp q2
    rw [hT] at q2
    have e : is1 n x = false := decide_eq_false (by omega)
    exact And.intro (Or.inl rfl) (And.intro ⟨by rw [e]; rfl, rfl⟩ rfl)
  · have q : ¬ x.toInt < 0 := fun w => q (lt_T.mpr w)
    have q2 : ¬ (nI n).toInt ≤ x.toInt := fun w => q2 (le_T.mpr w)
    rw [hT] at q2
    have e : is1 n x = true := decide_eq_true (by omega)
    exact And.intro (Or.inr rfl) (And.intro ⟨by rw [e]; rfl, rfl⟩ rfl)
/-- what is held of the line -/
def LB (n L : Nat) (S : Nat → Nat → Nat) (M Ah : Nat → Nat → Int32) (ct st : Int32) : Prop := 1 ≤ n ∧ n ≤ 5 ∧ 1 ≤ L ∧ L ≤ 30 ∧ ct = nI n ∧ st = nI L ∧ (∀ p j, p < n → j < L → S p j ≤ 30 ∧ M p j = nI (S p j)) ∧ ∀ p, p < 5 → Ah p 0 = 0
def LQ (n L : Nat) (S : Nat → Nat → Nat) (Ah : Nat → Nat → Int32) (En : Nat → Int64) (Ho : Nat → Int32) (un : Int64) : Prop := un = kL (uE n L S) ∧ (∀ k, k ≤ n → En k = kL (eE n L S k)) ∧ (∀ k, k < n → Ho k = nI (hE n L S k)) ∧ ∀ p k, p < n → k ≤ L → Ah p k = nI (aS S p k)
def LH (n L : Nat) (S : Nat → Nat → Nat) (h : xH) : Prop := ∃ (M Ah : Nat → Nat → Int32) (En : Nat → Int64) (Ho Sv : Nat → Int32) (ct st : Int32) (un : Int64) (sh : Int32) (sd sf : Int64), h = lnH M Ah En Ho Sv ct st un sh sd sf ∧ LB n L S M Ah ct st ∧ (sh = 0 ∨ (sh = 1 ∧ LQ n L S Ah En Ho un))
theorem c_clear (l : Launch) (ct st : Int32) (un : Int64) (sh : Int32) (sd sf : Int64) (M : Nat → Nat → Int32) : Ev l zX0_clearWorths [.inr (15, 0)] [lnO ct st un sh sd sf, gA 16 5 30 M] (fun v h' => v = none ∧ ∃ M' : Nat → Nat → Int32, (∀ a b, a < 5 → b < 30 → M' a b = 0) ∧ h' = [lnO ct st un 0 sd sf, gA 16 5 30 M']) := by
  refine ev_all okX0_clearWorths (by decide +kernel) (Nat.le_of_ble_eq_true rfl) ?_
  intro K hK
  have loop : ∀ (e j : Nat), j + e = 5 → ∀ (M : Nat → Nat → Int32), (∀ a b, a < j → b < 30 → M a b = 0) → ∀ J : Int32, J = nI j → K 2 [(0, .inr (15, 0)), (1, vI J)] [] [lnO ct st un sh sd sf, gA 16 5 30 M] := by
    intro e
    induction e with
    | zero =>
      intro j hj M hM J hJ
      have hj : j = 5 := hj
      subst hj; subst hJ
      refine hK [] 60 2 _ _ _ ?_
      refine And.intro (fun _ => ?_) (fun z => absurd (Int32.le_refl _) z)
      exact And.intro (Or.inl rfl) (And.intro ⟨rfl, M, hM, rfl⟩ rfl)
    | succ e ih =>
      intro j hj M hM J hJ
      subst hJ
      have cj : (nI j).toNatClampNeg = j := nI_clamp (by omega)
      refine hK [(2, [0, 1])] 60 2 _ _ _ ?_
      refine And.intro (fun z => absurd (show nI 5 ≤ nI j from z) (nI_ge (by omega) (by omega))) (fun _ => ?_)
      refine And.intro (vp_in_nI (by omega) (by omega)) (And.intro (by rw [cj]; omega) (And.intro (by decide) ?_))
      refine ih (j + 1) (by omega) (x_row M (nI j).toNatClampNeg (x_fill 30 0 (M (nI j).toNatClampNeg))) (fun a b ha hb => ?_) _ (nI_1 j)
      rw [cj]
      unfold x_row
      by_cases e : a = j
      · rw [if_pos e, x_fill_in hb]
      · rw [if_neg e]
        exact hM a b (by omega) hb
  refine hK [(2, [0, 1])] 60 0 _ _ _ ?_
  exact loop 5 0 (by omega) M (fun a b ha => absurd ha (Nat.not_lt_zero a)) 0 rfl
theorem c_invite0 (l : Launch) (n L : Nat) (S : Nat → Nat → Nat) (h : xH) (hH : LH n L S h) (m : Nat) (hm1 : 1 ≤ m) (hm : m ≤ 5) (x : Int32) (hx : x = nI m) : Ev l zX0_invite [.inr (15, 0), vI x] h (fun v h' => v = none ∧ LH m L W0 h') := by
  subst hx
  obtain ⟨M, Ah, En, Ho, Sv, ct, st, un, sh, sd, sf, rfl, hB, hS⟩ := hH
  obtain ⟨b1, b2, b3, b4, b5, b6, b7, b8⟩ := hB
  refine ev_run okX0_invite (by decide +kernel) (Nat.le_of_ble_eq_true rfl) 60 ?_
  refine ⟨[15, 16], _, c_clear l (nI m) st un sh sd sf M, fun v hc' hP _ => ?_⟩
  obtain ⟨rfl, M', hM', rfl⟩ := hP
  refine And.intro ⟨rfl, M', Ah, En, Ho, Sv, nI m, st, un, 0, sd, sf, rfl, ⟨hm1, hm, b3, b4, rfl, b6, fun p j hp hj => ⟨by show 0 ≤ 30; omega, ?_⟩, b8⟩, Or.inl rfl⟩ rfl
  rw [hM' p j (by omega) (by omega)]
  rfl
def okLine (x : Int32) : Bool := decide (1 ≤ x.toInt ∧ x.toInt ≤ 30)
def sLen (L : Nat) (x : Int32) : Nat := if okLine x = true then x.toInt.toNat else L
def sLin (S : Nat → Nat → Nat) (x : Int32) : Nat → Nat → Nat := if okLine x = true then W0 else S
theorem c_resize0 (l : Launch) (n L : Nat) (S : Nat → Nat → Nat) (h : xH) (hH : LH n L S h) (x : Int32) : Ev l zX0_resize [.inr (15, 0), vI x] h (fun v h' => v = some (vI (b2i (okLine x))) ∧ LH n (sLen L x) (sLin S x) h') := by
  obtain ⟨M, Ah, En, Ho, Sv, ct, st, un, sh, sd, sf, rfl, hB, hS⟩ := hH
  have no : okLine x = false → LH n (sLen L x) (sLin S x) (lnH M Ah En Ho Sv ct st un sh sd sf) := fun q => by
    unfold sLen sLin
    rw [q]
    exact ⟨M, Ah, En, Ho, Sv, ct, st, un, sh, sd, sf, rfl, hB, hS⟩
  obtain ⟨b1, b2, b3, b4, b5, b6, b7, b8⟩ := id hB
  refine ev_run okX0_resize (by decide +kernel) (Nat.le_of_ble_eq_true rfl) 60 ?_
  refine And.intro (fun q => ?_) (fun q => And.intro (fun q2 => ?_) (fun q2 => ?_))
  · have q : x.toInt < 1 := lt_T.mp q
    have e : okLine x = false := decide_eq_false (by omega)
    exact And.intro (Or.inl rfl) (And.intro ⟨by rw [e]; rfl, no e⟩ rfl)
  · have q : ¬ x.toInt < 1 := fun z => q (lt_T.mpr z)
    have q2 : x.toInt ≤ 30 := le_T.mp q2
    have e : okLine x = true := decide_eq_true (by omega)
    obtain ⟨m, hm, rfl, hmt⟩ := nI_arg (x := x) (by omega)
    refine ⟨[15, 16], _, c_clear l ct (nI m) un sh sd sf M, fun v hc' hP _ => ?_⟩
    obtain ⟨rfl, M', hM', rfl⟩ := hP
    refine And.intro (Or.inr rfl) (And.intro ⟨by rw [e]; rfl, ?_⟩ rfl)
    have e1 : sLen L (nI m) = m := by unfold sLen; rw [e, if_pos rfl, hmt]; rfl
    have e2 : sLin S (nI m) = W0 := by unfold sLin; rw [e]; rfl
    rw [e1, e2]
    refine ⟨M', Ah, En, Ho, Sv, ct, nI m, un, 0, sd, sf, rfl, ⟨b1, b2, by omega, by omega, b5, rfl, fun p j hp hj => ⟨by show 0 ≤ 30; omega, ?_⟩, b8⟩, Or.inl rfl⟩
    rw [hM' p j (by omega) (by omega)]
    rfl
  · have q2 : ¬ x.toInt ≤ 30 := fun z => q2 (le_T.mpr z)
    have e : okLine x = false := decide_eq_false (by omega)
    exact And.intro (Or.inl rfl) (And.intro ⟨by rw [e]; rfl, no e⟩ rfl)
def okStr (n L : Nat) (p j w : Int32) : Bool := is1 n p && is1 L j && decide (0 ≤ w.toInt ∧ w.toInt ≤ 30)
def sStr (n L : Nat) (S : Nat → Nat → Nat) (p j w : Int32) : Nat → Nat → Nat := if okStr n L p j w = true then upM S p.toInt.toNat j.toInt.toNat w.toInt.toNat else S
theorem c_setWorth0 (l : Launch) (n L : Nat) (S : Nat → Nat → Nat) (h : xH) (hH : LH n L S h) (p j w : Int32) : Ev l zX0_setWorth [.inr (15, 0), vI p, vI j, vI w] h (fun v h' => v = some (vI (b2i (okStr n L p j w))) ∧ LH n L (sStr n L S p j w) h') := by
  obtain ⟨M, Ah, En, Ho, Sv, ct, st, un, sh, sd, sf, rfl, hB, hS⟩ := hH
  have no : okStr n L p j w = false → LH n L (sStr n L S p j w) (lnH M Ah En Ho Sv ct st un sh sd sf) := fun q => by
    unfold sStr
    rw [q]
    exact ⟨M, Ah, En, Ho, Sv, ct, st, un, sh, sd, sf, rfl, hB, hS⟩
  obtain ⟨b1, b2, b3, b4, rfl, rfl, b7, b8⟩ := id hB
  have hT : (nI L).toInt = (L : Int) := nI_toInt (by omega)
  have noj : is1 L j = false → okStr n L p j w = false := fun q => by unfold okStr; rw [q, Bool.and_false]; rfl
  refine ev_run okX0_setWorth (by decide +kernel) (Nat.le_of_ble_eq_true rfl) 60 ?_
  refine ⟨[15], _, c_isOne0 l n b2 (nI L) un sh sd sf p, fun v hc' hP _ => ?_⟩
  obtain ⟨rfl, rfl⟩ := hP
  refine And.intro (fun q => ?_) (fun q => And.intro (fun j1 => ?_) (fun j1 => And.intro (fun j2 => ?_) (fun j2 => And.intro (fun w1 => ?_) (fun w1 => And.intro (fun w2 => ?_) (fun w2 => ?_)))))
  · have e : okStr n L p j w = false := by unfold okStr; rw [b2i0 q]; rfl
    exact And.intro (Or.inl rfl) (And.intro ⟨by rw [e]; rfl, no e⟩ rfl)
  · have j1 : j.toInt < 0 := lt_T.mp j1
    have e := noj (decide_eq_false (by omega))
    exact And.intro (Or.inl rfl) (And.intro ⟨by rw [e]; rfl, no e⟩ rfl)
  · have j2 : (nI L).toInt ≤ j.toInt := le_T.mp j2
    rw [hT] at j2
    have e := noj (decide_eq_false (by omega))
    exact And.intro (Or.inl rfl) (And.intro ⟨by rw [e]; rfl, no e⟩ rfl)
  · have w1 : w.toInt < 0 := lt_T.mp w1
    have e : okStr n L p j w = false := by unfold okStr; rw [decide_eq_false (by omega), Bool.and_false]
    exact And.intro (Or.inl rfl) (And.intro ⟨by rw [e]; rfl, no e⟩ rfl)
  · have j1 : ¬ j.toInt < 0 := fun z => j1 (lt_T.mpr z)
    have j2 : ¬ (nI L).toInt ≤ j.toInt := fun z => j2 (le_T.mpr z)
    rw [hT] at j2
    have w1 : ¬ w.toInt < 0 := fun z => w1 (lt_T.mpr z)
    have w2 : w.toInt ≤ 30 := le_T.mp w2
    have q := b2i1 q
    have qj : is1 L j = true := decide_eq_true (by omega)
    have e : okStr n L p j w = true := by unfold okStr; rw [q, qj, decide_eq_true (by omega)]; rfl
    obtain ⟨a, ha, rfl, hat⟩ := is1_of q
    obtain ⟨b, hb, rfl, hbt⟩ := is1_of qj
    obtain ⟨c, hc, rfl, hct⟩ := nI_arg (x := w) (by omega)
    have ca : (nI a).toNatClampNeg = a := nI_clamp (by omega)
    have cb : (nI b).toNatClampNeg = b := nI_clamp (by omega)
    refine And.intro (vp_in_nI (by omega) (by omega)) (And.intro (by rw [ca]; omega) (And.intro (vp_in_nI (by omega) (by omega)) (And.intro (Or.inl rfl) (And.intro (Or.inr rfl) (And.intro ⟨by rw [e]; rfl, ?_⟩ rfl)))))
    have e1 : sStr n L S (nI a) (nI b) (nI c) = upM S a b c := by unfold sStr; rw [e, if_pos rfl, hat, hbt, hct]; rfl
    rw [e1]
    refine ⟨x_row M (nI a).toNatClampNeg (upd (M (nI a).toNatClampNeg) (nI b).toNatClampNeg (nI c)), Ah, En, Ho, Sv, nI n, nI L, un, 0, sd, sf, rfl, ⟨b1, b2, b3, b4, rfl, rfl, fun p j hp hj => ?_, b8⟩, Or.inl rfl⟩
    rw [ca, cb]
    unfold upM x_row
    by_cases ep : p = a
    · subst ep
      rw [if_pos rfl]
      by_cases ej : j = b
      · subst ej
        rw [if_pos ⟨rfl, rfl⟩, pk_us]
        exact ⟨by omega, rfl⟩
      · rw [if_neg (fun w => ej w.2), pk_un ej]
        exact b7 p j hp hj
    · rw [if_neg ep, if_neg (fun w => ep w.1)]
      exact b7 p j hp hj
  · have w2 : ¬ w.toInt ≤ 30 := fun z => w2 (le_T.mpr z)
    have e : okStr n L p j w = false := by unfold okStr; rw [decide_eq_false (by omega), Bool.and_false]
    exact And.intro (Or.inl rfl) (And.intro ⟨by rw [e]; rfl, no e⟩ rfl)
