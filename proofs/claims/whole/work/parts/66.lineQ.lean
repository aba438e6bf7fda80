/-! ===== Line: what is asked ===== -/
theorem LM_of {n L : Nat} {S : Nat → Nat → Nat} {M Ah : Nat → Nat → Int32} {ct st : Int32} {En : Nat → Int64} {Ho : Nat → Int32} {un : Int64} (hB : LB n L S M Ah ct st) (hQ : LQ n L S Ah En Ho un) : LM n L S M Ah := ⟨hB.1, hB.2.1, hB.2.2.1, hB.2.2.2.1, hB.2.2.2.2.2.2.1, hQ.2.2.2⟩
theorem LH_of {n L : Nat} {S : Nat → Nat → Nat} {M Ah : Nat → Nat → Int32} {ct st : Int32} {En : Nat → Int64} {Ho Sv : Nat → Int32} {un sd sf : Int64} (hB : LB n L S M Ah ct st) (hQ : LQ n L S Ah En Ho un) : LH n L S (lnH M Ah En Ho Sv ct st un 1 sd sf) := ⟨M, Ah, En, Ho, Sv, ct, st, un, 1, sd, sf, rfl, hB, Or.inr ⟨rfl, hQ⟩⟩
theorem LB_S {n L : Nat} {S : Nat → Nat → Nat} {M Ah : Nat → Nat → Int32} {ct st : Int32} (hB : LB n L S M Ah ct st) : ∀ p j, p < n → j < L → S p j ≤ 30 := fun p j hp hj => (hB.2.2.2.2.2.2.1 p j hp hj).1
def qWho (n L : Nat) (S : Nat → Nat → Nat) (x : Int32) : Int32 := if is1 n x = true then nI (hE n L S x.toInt.toNat) else -1
theorem c_holderOf (l : Launch) (n L : Nat) (S : Nat → Nat → Nat) (h : xH) (hH : LH n L S h) (x : Int32) : Ev l zX0_holderOf [.inr (15, 0), vI x] h (fun r h' => r = some (vI (qWho n L S x)) ∧ LH n L S h') := by
  obtain ⟨M, Ah, En, Ho, Sv, ct, st, un, sh, sd, sf, rfl, hB, hS⟩ := hH
  obtain ⟨b1, b2, b3, b4, rfl, rfl, b7, b8⟩ := id hB
  refine ev_run okX0_holderOf (by decide +kernel) (Nat.le_of_ble_eq_true rfl) 60 ?_
  refine ⟨[15], _, c_isOne0 l n b2 (nI L) un sh sd sf x, fun r hc' hP _ => ?_⟩
  obtain ⟨rfl, rfl⟩ := hP
  refine And.intro (fun q => ?_) (fun q => ?_)
  · have q := b2i1 q
    refine ⟨[15, 16, 17, 18, 19, 20], _, c_share l n L S M Ah En Ho Sv (nI n) (nI L) un sh sd sf hB hS, fun r hc' hP _ => ?_⟩
    obtain ⟨rfl, Ah, En, Ho, Sv, un, sd, sf, hB, hQ, rfl⟩ := hP
    unfold qWho
    rw [if_pos q]
    obtain ⟨k, hk, rfl, hkt⟩ := is1_of q
    refine And.intro (vp_in_nI (by omega) (by omega)) (And.intro ⟨?_, LH_of hB hQ⟩ rfl)
    show some (vI (Ho (nI k).toNatClampNeg)) = _
    rw [nI_clamp (by omega), hQ.2.2.1 k hk, hkt]
    rfl
  · refine And.intro ⟨?_, M, Ah, En, Ho, Sv, nI n, nI L, un, sh, sd, sf, rfl, hB, hS⟩ rfl
    unfold qWho
    rw [b2i0 q]
    rfl
def qPlace (n L : Nat) (S : Nat → Nat → Nat) (x w : Int32) : Int64 := if is1 n x = true then qRd (eE n L S (x.toInt.toNat + 1)) (uE n L S) w else -1
theorem eE_bd {n L : Nat} {S : Nat → Nat → Nat} (hn : 1 ≤ n) (hn5 : n ≤ 5) (hL : 1 ≤ L) (hL30 : L ≤ 30) (hS : ∀ p j, p < n → j < L → S p j ≤ 30) {k : Nat} (hk : k ≤ n) : eE n L S k ≤ L * uE n L S ∧ L * uE n L S ≤ 121500000 := by
  have h1 := (eE_ok hn hn5 hL hS).2.2 k hk
  have h2 := Nat.mul_le_mul hL30 (uE_rng hn hn5 hL hS).2
  exact ⟨h1, by omega⟩
theorem c_endOf (l : Launch) (n L : Nat) (S : Nat → Nat → Nat) (h : xH) (hH : LH n L S h) (x w : Int32) : Ev l zX0_endOf [.inr (15, 0), vI x, vI w] h (fun r h' => r = some (vL (qPlace n L S x w)) ∧ LH n L S h') := by
  obtain ⟨M, Ah, En, Ho, Sv, ct, st, un, sh, sd, sf, rfl, hB, hS⟩ := hH
  obtain ⟨b1, b2, b3, b4, rfl, rfl, b7, b8⟩ := id hB
  refine ev_run okX0_endOf (by decide +kernel) (Nat.le_of_ble_eq_true rfl) 60 ?_
  refine ⟨[15], _, c_isOne0 l n b2 (nI L) un sh sd sf x, fun r hc' hP _ => ?_⟩
  obtain ⟨rfl, rfl⟩ := hP
  refine And.intro (fun q => ?_) (fun q => ?_)
  · have q := b2i1 q
    refine ⟨[15, 16, 17, 18, 19, 20], _, c_share l n L S M Ah En Ho Sv (nI n) (nI L) un sh sd sf hB hS, fun r hc' hP _ => ?_⟩
    obtain ⟨rfl, Ah, En, Ho, Sv, un, sd, sf, hB, hQ, rfl⟩ := hP
    unfold qPlace
    rw [if_pos q]
    obtain ⟨k, hk, rfl, hkt⟩ := is1_of q
    obtain ⟨u1, u2⟩ := uE_rng b1 b2 b3 (LB_S hB)
    obtain ⟨g1, g2⟩ := eE_bd b1 b2 b3 b4 (LB_S hB) (show k + 1 ≤ n by omega)
    obtain ⟨q1, q2, q3, q4⟩ := id hQ
    subst q1
    have ck1 : (nI k + 1).toNatClampNeg = k + 1 := by rw [nI_1]; exact nI_clamp (by omega)
    refine And.intro (by show vp_in (nI k + 1) 6; rw [nI_1]; exact vp_in_nI (by omega) (by omega)) ?_
    refine ⟨[15], _, c_least l (eE n L S (k + 1)) (uE n L S) (by omega) u1 u2 (nI n) (nI L) 1 sd sf w _ (by show En (nI k + 1).toNatClampNeg = _; rw [ck1]; exact q2 (k + 1) (by omega)), fun r hc' hP _ => ?_⟩
    obtain ⟨rfl, rfl⟩ := hP
    refine And.intro ⟨?_, LH_of hB hQ⟩ rfl
    rw [hkt]
    rfl
  · refine And.intro ⟨?_, M, Ah, En, Ho, Sv, nI n, nI L, un, sh, sd, sf, rfl, hB, hS⟩ rfl
    unfold qPlace
    rw [b2i0 q]
    rfl
abbrev lpH (M Ah : Nat → Nat → Int32) (En : Nat → Int64) (ct st : Int32) (un : Int64) (sh : Int32) (sd sf : Int64) : xH := [lnO ct st un sh sd sf, gA 16 5 30 M, gA 17 5 31 Ah, lA 18 6 En]
theorem c_piecesOf (l : Launch) (n L : Nat) (S : Nat → Nat → Nat) (M Ah : Nat → Nat → Int32) (hM : LM n L S M Ah) (En : Nat → Int64) (hEn : ∀ k, k ≤ n → En k = kL (eE n L S k)) (sh : Int32) (sd sf : Int64) (p k : Nat) (hp : p < n) (hk : k < n) (x y : Int32) (hx : x = nI p) (hy : y = nI k) : Ev l zX0_piecesOf [.inr (15, 0), vI x, vI y] (lpH M Ah En (nI n) (nI L) (kL (uE n L S)) sh sd sf) (fun r h' => r = some (vL (kL (pcs n L S p k))) ∧ h' = lpH M Ah En (nI n) (nI L) (kL (uE n L S)) sh sd sf) := by
  subst hx; subst hy
  obtain ⟨m1, m2, m3, m4, m5, m6⟩ := id hM
  have hS : ∀ p j, p < n → j < L → S p j ≤ 30 := fun p j hp hj => (m5 p j hp hj).1
  obtain ⟨u1, u2⟩ := uE_rng m1 m2 m3 hS
  have g1 := (eE_bd m1 m2 m3 m4 hS (show k + 1 ≤ n by omega)).1
  have g2 := (eE_bd m1 m2 m3 m4 hS (show k ≤ n by omega)).1
  have ck : (nI k).toNatClampNeg = k := nI_clamp (by omega)
  have ck1 : (nI k + 1).toNatClampNeg = k + 1 := by rw [nI_1]; exact nI_clamp (by omega)
  refine ev_run okX0_piecesOf (by decide +kernel) (Nat.le_of_ble_eq_true rfl) 60 ?_
  refine And.intro (by show vp_in (nI k + 1) 6; rw [nI_1]; exact vp_in_nI (by omega) (by omega)) ?_
  refine ⟨[15, 16, 17], _, c_ahead l n L S M Ah hM sh sd sf (uE n L S) u1 u2 p hp (eE n L S (k + 1)) g1 _ _ rfl (by show En (nI k + 1).toNatClampNeg = _; rw [ck1]; exact hEn (k + 1) (by omega)), fun r hc' hP _ => ?_⟩
  obtain ⟨rfl, rfl⟩ := hP
  refine And.intro (vp_in_nI (by omega) (by omega)) ?_
  refine ⟨[15, 16, 17], _, c_ahead l n L S M Ah hM sh sd sf (uE n L S) u1 u2 p hp (eE n L S k) g2 _ _ rfl (by show En (nI k).toNatClampNeg = _; rw [ck]; exact hEn k (by omega)), fun r hc' hP _ => ?_⟩
  obtain ⟨rfl, rfl⟩ := hP
  refine And.intro ⟨?_, rfl⟩ rfl
  show some (vL (kL _ - kL _)) = _
  rw [kL_sub (pa_mono ((eE_ok m1 m2 m3 hS).2.1 k hk))]
  rfl
theorem pcs_bd {n L : Nat} {S : Nat → Nat → Nat} {M Ah : Nat → Nat → Int32} (hM : LM n L S M Ah) {p k : Nat} (hp : p < n) : pcs n L S p k ≤ 900 * uE n L S := by
  have := pa_bd (e := eE n L S (k + 1)) (U := uE n L S) hM hp
  unfold pcs
  omega
def qWorth (n L : Nat) (S : Nat → Nat → Nat) (x y w : Int32) : Int64 := if (is1 n x && is1 n y) = true then qRd (pcs n L S x.toInt.toNat y.toInt.toNat) (uE n L S) w else -1
theorem c_worthOf (l : Launch) (n L : Nat) (S : Nat → Nat → Nat) (h : xH) (hH : LH n L S h) (x y w : Int32) : Ev l zX0_worthOf [.inr (15, 0), vI x, vI y, vI w] h (fun r h' => r = some (vL (qWorth n L S x y w)) ∧ LH n L S h') := by
  obtain ⟨M, Ah, En, Ho, Sv, ct, st, un, sh, sd, sf, rfl, hB, hS⟩ := hH
  obtain ⟨b1, b2, b3, b4, rfl, rfl, b7, b8⟩ := id hB
  have no : (is1 n x && is1 n y) = false → qWorth n L S x y w = -1 := fun q => by
    unfold qWorth
    rw [q]
    rfl
  refine ev_run okX0_worthOf (by decide +kernel) (Nat.le_of_ble_eq_true rfl) 60 ?_
  refine ⟨[15], _, c_isOne0 l n b2 (nI L) un sh sd sf x, fun r hc' hP _ => ?_⟩
  obtain ⟨rfl, rfl⟩ := hP
  refine And.intro (fun q => ?_) (fun q => ?_)
  · refine And.intro ⟨?_, M, Ah, En, Ho, Sv, nI n, nI L, un, sh, sd, sf, rfl, hB, hS⟩ rfl
    rw [no (by rw [b2i0 q]; rfl)]
  refine ⟨[15], _, c_isOne0 l n b2 (nI L) un sh sd sf y, fun r hc' hP _ => ?_⟩
  obtain ⟨rfl, rfl⟩ := hP
  refine And.intro (fun q1 => ?_) (fun q1 => ?_)
  · have q := b2i1 q
    have q1 := b2i1 q1
    refine ⟨[15, 16, 17, 18, 19, 20], _, c_share l n L S M Ah En Ho Sv (nI n) (nI L) un sh sd sf hB hS, fun r hc' hP _ => ?_⟩
    obtain ⟨rfl, Ah, En, Ho, Sv, un, sd, sf, hB, hQ, rfl⟩ := hP
    have e : (is1 n x && is1 n y) = true := by rw [q, q1]; rfl
    unfold qWorth
    rw [if_pos e]
    obtain ⟨a, ha, rfl, hat⟩ := is1_of q
    obtain ⟨b, hb, rfl, hbt⟩ := is1_of q1
    have hM := LM_of hB hQ
    obtain ⟨u1, u2⟩ := uE_rng b1 b2 b3 (LB_S hB)
    obtain ⟨q1', q2, q3, q4⟩ := id hQ
    subst q1'
    have hpb := pcs_bd (k := b) hM ha
    refine ⟨[15, 16, 17, 18], _, c_piecesOf l n L S M Ah hM En q2 1 sd sf a b ha hb _ _ rfl rfl, fun r hc' hP _ => ?_⟩
    obtain ⟨rfl, rfl⟩ := hP
    refine ⟨[15], _, c_least l (pcs n L S a b) (uE n L S) (by omega) u1 u2 (nI n) (nI L) 1 sd sf w _ rfl, fun r hc' hP _ => ?_⟩
    obtain ⟨rfl, rfl⟩ := hP
    refine And.intro ⟨?_, LH_of hB hQ⟩ rfl
    rw [hat, hbt]
    rfl
  · refine And.intro ⟨?_, M, Ah, En, Ho, Sv, nI n, nI L, un, sh, sd, sf, rfl, hB, hS⟩ rfl
    rw [no (by rw [b2i0 q1, Bool.and_false])]
/-- the part that p holds -/
def myP (n L : Nat) (S : Nat → Nat → Nat) (p : Nat) : Nat := (fI (hE n L S) p n).getD 0
theorem myP_ok {n L : Nat} {S : Nat → Nat → Nat} (hn : 1 ≤ n) (hn5 : n ≤ 5) (hL : 1 ≤ L) (hS : ∀ p j, p < n → j < L → S p j ≤ 30) {p : Nat} (hp : p < n) : myP n L S p < n ∧ hE n L S (myP n L S p) = p ∧ ∀ k, k < n → hE n L S k = p → k = myP n L S p := by
  obtain ⟨h1, h2, h3⟩ := hE_ok hn hn5 hL hS
  obtain ⟨k, hk, ek⟩ := h3 p hp
  have hm : myP n L S p < n ∧ hE n L S (myP n L S p) = p := by
    unfold myP
    cases hf : fI (hE n L S) p n with
    | none => exact absurd ek (fI_none hf k hk)
    | some m => exact fI_some hf
  exact ⟨hm.1, hm.2, fun k hk e => h2 k _ hk hm.1 (by rw [e, hm.2])⟩
def qEnv (n L : Nat) (S : Nat → Nat → Nat) (p : Nat) : Nat := sm (fun k => c1 (decide (pcs n L S p (myP n L S p) < pcs n L S p k))) n
def qEnvies (n L : Nat) (S : Nat → Nat → Nat) (x : Int32) : Int32 := if is1 n x = true then nI (qEnv n L S x.toInt.toNat) else -1
theorem c_envied (l : Launch) (n L : Nat) (S : Nat → Nat → Nat) (h : xH) (hH : LH n L S h) (x : Int32) : Ev l zX0_countEnvied [.inr (15, 0), vI x] h (fun r h' => r = some (vI (qEnvies n L S x)) ∧ LH n L S h') := by
  obtain ⟨M, Ah, En, Ho, Sv, ct, st, un, sh, sd, sf, rfl, hB, hS⟩ := hH
  obtain ⟨b1, b2, b3, b4, rfl, rfl, b7, b8⟩ := id hB
  refine ev_all okX0_countEnvied (by decide +kernel) (Nat.le_of_ble_eq_true rfl) ?_
  intro K hK
  refine hK [(19, [0, 1, 2, 4])] 60 0 _ _ _ ?_
  refine ⟨[15], _, c_isOne0 l n b2 (nI L) un sh sd sf x, fun r hc' hP _ => ?_⟩
  obtain ⟨rfl, rfl⟩ := hP
  refine And.intro (fun q => ?_) (fun q => ?_)
  · have q := b2i1 q
    refine ⟨[15, 16, 17, 18, 19, 20], _, c_share l n L S M Ah En Ho Sv (nI n) (nI L) un sh sd sf hB hS, fun r hc' hP _ => ?_⟩
    obtain ⟨rfl, Ah, En, Ho, Sv, un, sd, sf, hB, hQ, rfl⟩ := hP
    obtain ⟨p, hp, rfl, hpt⟩ := is1_of q
    have hqe : qEnvies n L S (nI p) = nI (qEnv n L S p) := by
      unfold qEnvies
      rw [if_pos q, hpt]
      rfl
    have hM := LM_of hB hQ
    obtain ⟨u1, u2⟩ := uE_rng b1 b2 b3 (LB_S hB)
    obtain ⟨q1', q2, q3, q4⟩ := id hQ
    subst q1'
    obtain ⟨y1, y2, y3⟩ := myP_ok b1 b2 b3 (LB_S hB) hp
    have hh1 := (hE_ok b1 b2 b3 (LB_S hB)).1
    have at59 : ∀ (e k : Nat), k + e = n → ∀ C X : Int32, C = nI (sm (fun k => c1 (decide (pcs n L S p (myP n L S p) < pcs n L S p k))) k) → X = nI k → K 59 [(0, .inr (15, 0)), (1, vI (nI p)), (2, vL (kL (pcs n L S p (myP n L S p)))), (4, vI C), (5, vI X)] [] (lnH M Ah En Ho Sv (nI n) (nI L) (kL (uE n L S)) 1 sd sf) := by
      intro e
      induction e with
      | zero =>
        intro k hk C X hC hX
        have hk : k = n := hk
        subst hk; subst hC; subst hX
        refine hK [] 60 59 _ _ _ ?_
        refine And.intro (fun _ => ?_) (fun z => absurd (Int32.le_refl _) z)
        exact And.intro ⟨by rw [hqe]; rfl, LH_of hB hQ⟩ rfl
      | succ e ih =>
        intro k hk C X hC hX
        subst hC; subst hX
        have hkn : k < n := by omega
        have r1 := pcs_bd (k := k) hM hp
        have r2 := pcs_bd (k := myP n L S p) hM hp
        refine hK [(59, [0, 1, 2, 4, 5])] 60 59 _ _ _ ?_
        refine And.intro (fun z => absurd z (nI_ge (by omega) (by omega))) (fun _ => ?_)
        refine ⟨[15, 16, 17, 18], _, c_piecesOf l n L S M Ah hM En q2 1 sd sf p k hp hkn _ _ rfl rfl, fun r hc' hP _ => ?_⟩
        obtain ⟨rfl, rfl⟩ := hP
        refine And.intro (fun z => ?_) (fun z => ?_)
        · have z : kL (pcs n L S p k) ≤ kL (pcs n L S p (myP n L S p)) := z
          rw [kL_le (by omega) (by omega)] at z
          refine ih (k + 1) (by omega) _ _ ?_ (nI_1 k)
          show nI _ + 0 = nI (_ + c1 (decide (pcs n L S p (myP n L S p) < pcs n L S p k)))
          rw [decide_eq_false (by omega), Int32.add_zero]
          rfl
        · have z : ¬ kL (pcs n L S p k) ≤ kL (pcs n L S p (myP n L S p)) := z
          rw [kL_le (by omega) (by omega)] at z
          refine ih (k + 1) (by omega) _ _ ?_ (nI_1 k)
          show nI _ + 1 = nI (_ + c1 (decide (pcs n L S p (myP n L S p) < pcs n L S p k)))
          rw [decide_eq_true (by omega), nI_1]
          rfl
    have at19 : ∀ (e k : Nat), k + e = n → ∀ (A : Int64), (myP n L S p < k → A = kL (pcs n L S p (myP n L S p))) → ∀ X : Int32, X = nI k → K 19 [(0, .inr (15, 0)), (1, vI (nI p)), (2, vL A), (4, vI X)] [] (lnH M Ah En Ho Sv (nI n) (nI L) (kL (uE n L S)) 1 sd sf) := by
      intro e
      induction e with
      | zero =>
        intro k hk A hA X hX
        have hk : k = n := hk
        subst hk; subst hX
        rw [hA y1]
        refine hK [(59, [0, 1, 2, 4, 5])] 60 19 _ _ _ ?_
        refine And.intro (fun _ => ?_) (fun z => absurd (Int32.le_refl _) z)
        exact at59 k 0 (by omega) 0 0 rfl rfl
      | succ e ih =>
        intro k hk A hA X hX
        subst hX
        have hkn : k < n := by omega
        have ck : (nI k).toNatClampNeg = k := nI_clamp (by omega)
        have hHo : Ho (nI k).toNatClampNeg = nI p ↔ hE n L S k = p := by
          have := hh1 k hkn
          rw [ck, q3 k hkn]
          exact nI_eq (by omega) (by omega)
        refine hK [(19, [0, 1, 2, 4])] 60 19 _ _ _ ?_
        refine And.intro (fun z => absurd z (nI_ge (by omega) (by omega))) (fun _ => ?_)
        refine And.intro (vp_in_nI (by omega) (by omega)) ?_
        refine And.intro (fun z => ?_) (fun z => ?_)
        · have z : ¬ hE n L S k = p := fun w => z (hHo.mpr w)
          refine ih (k + 1) (by omega) A (fun w => hA ?_) _ (nI_1 k)
          by_cases ek : myP n L S p = k
          · rw [← ek] at z; exact absurd y2 z
          · omega
        · have z := hHo.mp z
          have ek := y3 k hkn z
          refine ⟨[15, 16, 17, 18], _, c_piecesOf l n L S M Ah hM En q2 1 sd sf p k hp hkn _ _ rfl rfl, fun r hc' hP _ => ?_⟩
          obtain ⟨rfl, rfl⟩ := hP
          exact ih (k + 1) (by omega) _ (fun _ => by rw [← ek]) _ (nI_1 k)
    exact at19 n 0 (by omega) 0 (fun w => absurd w (Nat.not_lt_zero _)) 0 rfl
  · refine And.intro ⟨?_, M, Ah, En, Ho, Sv, nI n, nI L, un, sh, sd, sf, rfl, hB, hS⟩ rfl
    unfold qEnvies
    rw [b2i0 q]
    rfl
