/-! ===== Line: cutOff, giveRest, share ===== -/
/-- the cells, behind k cuts -/
def LC (n : Nat) (k : Nat) (s : lSt) (En : Nat → Int64) (Ho Sv : Nat → Int32) : Prop := (∀ j, j ≤ k → En j = kL (s.1 j)) ∧ (∀ j, j < k → Ho j = nI (s.2.2.1 j)) ∧ ∀ i, i < n → Sv i = b2i (s.2.2.2.testBit i)
theorem pow30 {k : Nat} (hk : k ≤ 3) : 5 * 30 ^ k ≤ 135000 := by
  have : 30 ^ k ≤ 30 ^ 3 := Nat.pow_le_pow_right (by omega) hk
  omega
theorem b2i_t {b : Bool} (h : b = true) : ¬ b2i b = 0 := by
  rw [h]
  decide
theorem pkS_t {n L : Nat} {S : Nat → Nat → Nat} {d e U i : Nat} (h : d.testBit i = true) : pkS n L S d e U (i + 1) = pkS n L S d e U i := by
  rw [pkS]
  exact if_pos h
theorem pkS_n {n L : Nat} {S : Nat → Nat → Nat} {d e U i : Nat} (h : d.testBit i = false) (hp : pkS n L S d e U i = none) : pkS n L S d e U (i + 1) = some (i, sS n L S i e U, fS n L S i e U) := by
  rw [pkS, if_neg (by rw [h]; decide)]
  simp only [hp]
theorem pkS_s {n L : Nat} {S : Nat → Nat → Nat} {d e U i b pl f : Nat} (h : d.testBit i = false) (hp : pkS n L S d e U i = some (b, pl, f)) : pkS n L S d e U (i + 1) = if sS n L S i e U * f < pl * fS n L S i e U then some (i, sS n L S i e U, fS n L S i e U) else some (b, pl, f) := by
  rw [pkS, if_neg (by rw [h]; decide)]
  simp only [hp]
theorem c_cutOff (l : Launch) (n L : Nat) (S : Nat → Nat → Nat) (M Ah : Nat → Nat → Int32) (hM : LM n L S M Ah) (k : Nat) (hk : k + 1 < n) (s : lSt) (hI : LI n L S k s) (En : Nat → Int64) (Ho Sv : Nat → Int32) (hC : LC n k s En Ho Sv) (sh : Int32) (sd sf : Int64) (q : Nat × Nat × Nat) (hq : pkS n L S s.2.2.2 (s.1 k) s.2.1 n = some q) (x : Int32) (hx : x = nI k) : Ev l zX0_cutOff [.inr (15, 0), vI x] (lnH M Ah En Ho Sv (nI n) (nI L) (kL s.2.1) sh sd sf) (fun r h' => r = none ∧ ∃ (En' : Nat → Int64) (Ho' Sv' : Nat → Int32) (sd' sf' : Int64), LC n (k + 1) (lSt1 k s q) En' Ho' Sv' ∧ h' = lnH M Ah En' Ho' Sv' (nI n) (nI L) (kL (lSt1 k s q).2.1) sh sd' sf') := by
  subst hx
  obtain ⟨m1, m2, m3, m4, m5, m6⟩ := id hM
  have hS : ∀ p j, p < n → j < L → S p j ≤ 30 := fun p j hp hj => (m5 p j hp hj).1
  obtain ⟨b, pl, f, hp, p1, p2, p3, p4, p5, p6, hI'⟩ := LI_step m1 m2 m3 hS hk hI
  have hq2 : q = (b, pl, f) := by
    rw [hp] at hq
    exact (Option.some.inj hq).symm
  subst hq2
  obtain ⟨⟨u1, u2, u3⟩, ⟨e1, e2, e3⟩, ⟨d1, d2⟩, hh, hv⟩ := id hI
  obtain ⟨c1, c2, c3⟩ := hC
  have hU : s.2.1 ≤ 135000 := Nat.le_trans u3 (pow30 (by omega))
  have ck : (nI k).toNatClampNeg = k := nI_clamp (by omega)
  have hLU : L * s.2.1 ≤ 30 * s.2.1 := Nat.mul_le_mul_right _ m4
  have hsp : ∀ {i : Nat}, i < n → s.2.2.2.testBit i = false → fS n L S i (s.1 k) s.2.1 ≤ 30 ∧ sS n L S i (s.1 k) s.2.1 ≤ 121500000 := fun {i} hi hd => by
    obtain ⟨g1, g2, g3, g4⟩ := LI_sp m1 m3 hS (by omega) hI hi hd
    refine ⟨g2, Nat.le_trans g4 ?_⟩
    have h1 : s.2.1 * fS n L S i (s.1 k) s.2.1 ≤ 135000 * 30 := Nat.mul_le_mul hU g2
    have h2 := Nat.mul_le_mul m4 h1
    omega
  refine ev_all okX0_cutOff (by decide +kernel) (Nat.le_of_ble_eq_true rfl) ?_
  intro K hK
  -- the cells' new values
  have at92 : ∀ (sd sf : Int64) (e j : Nat), j + e = k + 1 → ∀ (En' : Nat → Int64), (∀ i, i < j → En' i = kL (s.1 i * f)) → (∀ i, j ≤ i → i ≤ k → En' i = kL (s.1 i)) → ∀ J : Int32, J = nI j → K 92 [(0, .inr (15, 0)), (1, vI (nI k)), (2, vI (nI b)), (3, vL (kL pl)), (5, vL (kL f)), (7, vI J)] [] (lnH M Ah En' Ho Sv (nI n) (nI L) (kL s.2.1) sh sd sf) := by
    intro sd sf e
    induction e with
    | zero =>
      intro j hj En' h1 h2 J hJ
      have hj : j = k + 1 := hj
      subst hj; subst hJ
      have cb : (nI b).toNatClampNeg = b := nI_clamp (by omega)
      have ck1 : (nI k + 1).toNatClampNeg = k + 1 := by rw [nI_1]; exact nI_clamp (by omega)
      refine hK [] 100 92 _ _ _ ?_
      refine And.intro (fun _ => ?_) (fun z => absurd (nI_lt (by omega) (by omega)) z)
      refine And.intro (by show vp_in (nI k + 1) 6; rw [nI_1]; exact vp_in_nI (by omega) (by omega)) (And.intro (vp_in_nI (by omega) (by omega)) (And.intro (vp_in_nI (by omega) (by omega)) (And.intro (Or.inr rfl) (And.intro ⟨rfl, ?_⟩ rfl))))
      refine ⟨vp_updL En' (nI k + 1).toNatClampNeg (kL pl), upd Ho (nI k).toNatClampNeg (nI b), upd Sv (nI b).toNatClampNeg 1, sd, sf, ⟨fun i hi => ?_, fun i hi => ?_, fun i hi => ?_⟩, ?_⟩
      · rw [ck1]
        show _ = kL (if i = k + 1 then pl else s.1 i * f)
        by_cases ei : i = k + 1
        · rw [ei, us_L, if_pos rfl]
        · rw [un_L ei, if_neg ei]
          exact h1 i (by omega)
      · rw [ck]
        show _ = nI (if i = k then b else s.2.2.1 i)
        by_cases ei : i = k
        · rw [ei, pk_us, if_pos rfl]
        · rw [pk_un ei, if_neg ei]
          exact c2 i (by omega)
      · rw [cb]
        show _ = b2i ((s.2.2.2 ||| 2 ^ b).testBit i)
        rw [or_bit s.2.2.2 d1 b (by omega) i (by omega)]
        by_cases ei : i = b
        · rw [ei, pk_us, decide_eq_true rfl, Bool.or_true]
          rfl
        · rw [pk_un ei, decide_eq_false ei, Bool.or_false]
          exact c3 i hi
      · show lnH M Ah (vp_updL En' (nI k + 1).toNatClampNeg (kL pl)) (upd Ho (nI k).toNatClampNeg (nI b)) (upd Sv (nI b).toNatClampNeg 1) (nI n) (nI L) (kL s.2.1 * kL f) sh sd sf = lnH M Ah (vp_updL En' (nI k + 1).toNatClampNeg (kL pl)) (upd Ho (nI k).toNatClampNeg (nI b)) (upd Sv (nI b).toNatClampNeg 1) (nI n) (nI L) (kL (s.2.1 * f)) sh sd sf
        rw [kL_mul]
    | succ e ih =>
      intro j hj En' h1 h2 J hJ
      subst hJ
      have cj : (nI j).toNatClampNeg = j := nI_clamp (by omega)
      refine hK [(92, [0, 1, 2, 3, 5, 7])] 100 92 _ _ _ ?_
      refine And.intro (fun z => absurd (show nI k < nI j from z) (nI_nlt (by omega) (by omega))) (fun _ => ?_)
      refine And.intro (vp_in_nI (by omega) (by omega)) (And.intro (vp_in_nI (by omega) (by omega)) ?_)
      refine ih (j + 1) (by omega) _ (fun i hi => ?_) (fun i hi1 hi2 => ?_) _ (nI_1 j)
      · show vp_updL En' (nI j).toNatClampNeg (En' (nI j).toNatClampNeg * kL f) i = _
        rw [cj]
        by_cases ei : i = j
        · rw [ei, us_L, h2 j (Nat.le_refl j) (by omega), kL_mul]
        · rw [un_L ei]
          exact h1 i (by omega)
      · show vp_updL En' (nI j).toNatClampNeg (En' (nI j).toNatClampNeg * kL f) i = _
        rw [cj, un_L (by omega)]
        exact h2 i (by omega) hi2
  have at10 : ∀ (e i : Nat), i + e = n → ∀ (sd sf : Int64) (F : Int32) (P G : Int64), (match pkS n L S s.2.2.2 (s.1 k) s.2.1 i with | none => F = -1 ∧ P = 0 ∧ G = 1 | some v => F = nI v.1 ∧ P = kL v.2.1 ∧ G = kL v.2.2) → ∀ I : Int32, I = nI i → K 10 [(0, .inr (15, 0)), (1, vI (nI k)), (2, vI F), (3, vL P), (5, vL G), (7, vI I)] [] (lnH M Ah En Ho Sv (nI n) (nI L) (kL s.2.1) sh sd sf) := by
    intro e
    induction e with
    | zero =>
      intro i hi sd sf F P G hF I hI2
      have hi : i = n := hi
      subst hi; subst hI2
      rw [hp] at hF
      obtain ⟨f1, f2, f3⟩ := hF
      have f1 : F = nI b := f1
      have f2 : P = kL pl := f2
      have f3 : G = kL f := f3
      subst f1; subst f2; subst f3
      refine hK [(92, [0, 1, 2, 3, 5, 7])] 100 10 _ _ _ ?_
      refine And.intro (fun _ => ?_) (fun z => absurd (Int32.le_refl _) z)
      refine And.intro (fun _ => ?_) (fun z => ?_)
      · exact at92 sd sf (k + 1) 0 (by omega) En (fun i hi => absurd hi (Nat.not_lt_zero i)) (fun i _ hi => c1 i hi) 0 rfl
      · exfalso
        have z2 := congrArg Int32.toInt z
        rw [nI_toInt (by omega), show (-1 : Int32).toInt = -1 by decide] at z2
        omega
    | succ e ih =>
      intro i hi sd sf F P G hF I hI2
      subst hI2
      have hin : i < n := by omega
      have ci : (nI i).toNatClampNeg = i := nI_clamp (by omega)
      have hsv : Sv (nI i).toNatClampNeg = b2i (s.2.2.2.testBit i) := by rw [ci]; exact c3 i hin
      refine hK [(10, [0, 1, 2, 3, 5, 7])] 100 10 _ _ _ ?_
      refine And.intro (fun z => absurd z (nI_ge (by omega) (by omega))) (fun _ => ?_)
      refine And.intro (vp_in_nI (by omega) (by omega)) ?_
      refine And.intro (fun z => ?_) (fun z => ?_)
      · have z : ¬ Sv (nI i).toNatClampNeg = 0 := z
        rw [hsv] at z
        have z := b2i1 z
        refine ih (i + 1) (by omega) sd sf F P G ?_ _ (nI_1 i)
        rw [pkS_t z]
        exact hF
      · have z : Sv (nI i).toNatClampNeg = 0 := z
        rw [hsv] at z
        have z := b2i0 z
        obtain ⟨g1, g2⟩ := hsp hin z
        refine And.intro (vp_in_nI (by omega) (by omega)) ?_
        refine ⟨[15, 16, 17], _, c_speak l n L S M Ah hM sh sd sf s.2.1 u1 (by omega) u2 k (by omega) i hin (s.1 k) e3 (hv i hin z) _ _ rfl (by show En (nI k).toNatClampNeg = _; rw [ck]; exact c1 k (Nat.le_refl k)), fun r hc' hP _ => ?_⟩
        obtain ⟨rfl, rfl⟩ := hP
        have set : pkS n L S s.2.2.2 (s.1 k) s.2.1 (i + 1) = some (i, sS n L S i (s.1 k) s.2.1, fS n L S i (s.1 k) s.2.1) → K 10 [(0, .inr (15, 0)), (1, vI (nI k)), (2, vI (nI i)), (3, vL (kL (sS n L S i (s.1 k) s.2.1))), (5, vL (kL (fS n L S i (s.1 k) s.2.1))), (7, vI (nI i + 1))] [] (lnH M Ah En Ho Sv (nI n) (nI L) (kL s.2.1) sh (kL (sS n L S i (s.1 k) s.2.1)) (kL (fS n L S i (s.1 k) s.2.1))) := fun w => by
          refine ih (i + 1) (by omega) _ _ _ _ _ ?_ _ (nI_1 i)
          rw [w]
          exact ⟨rfl, rfl, rfl⟩
        cases hpi : pkS n L S s.2.2.2 (s.1 k) s.2.1 i with
        | none =>
          rw [hpi] at hF
          obtain ⟨f1, f2, f3⟩ := hF
          refine And.intro (fun _ => set (pkS_n z hpi)) (fun w => absurd f1 w)
        | some v =>
          obtain ⟨b', pl', f'⟩ := v
          rw [hpi] at hF
          obtain ⟨f1, f2, f3⟩ := hF
          have f1 : F = nI b' := f1
          have f2 : P = kL pl' := f2
          have f3 : G = kL f' := f3
          have hst := pkS_s z hpi
          obtain ⟨w1, w2, w3, w4, -⟩ := pkS_some (fun q hq hd => (LI_sp m1 m3 hS (by omega) hI (show q < n by omega) hd).1) hpi
          obtain ⟨v1, v2⟩ := hsp (show b' < n by omega) w2
          rw [← w3] at v2
          rw [← w4] at v1
          have r1 : sS n L S i (s.1 k) s.2.1 * f' ≤ 121500000 * 30 := Nat.mul_le_mul g2 v1
          have r2 : pl' * fS n L S i (s.1 k) s.2.1 ≤ 121500000 * 30 := Nat.mul_le_mul v2 g1
          subst f1; subst f2; subst f3
          refine And.intro (fun w => ?_) (fun _ => ?_)
          · exfalso
            have z2 := congrArg Int32.toInt w
            rw [nI_toInt (by omega), show (-1 : Int32).toInt = -1 by decide] at z2
            omega
          · refine And.intro (fun w => ?_) (fun w => ?_)
            · have w : kL pl' * kL (fS n L S i (s.1 k) s.2.1) ≤ kL (sS n L S i (s.1 k) s.2.1) * kL f' := w
              rw [kL_mul, kL_mul, kL_le (by omega) (by omega)] at w
              rw [if_neg (by omega)] at hst
              refine ih (i + 1) (by omega) _ _ _ _ _ ?_ _ (nI_1 i)
              rw [hst]
              exact ⟨rfl, rfl, rfl⟩
            · have w : ¬ kL pl' * kL (fS n L S i (s.1 k) s.2.1) ≤ kL (sS n L S i (s.1 k) s.2.1) * kL f' := w
              rw [kL_mul, kL_mul, kL_le (by omega) (by omega)] at w
              rw [if_pos (by omega)] at hst
              exact set hst
  refine hK [(10, [0, 1, 2, 3, 5, 7])] 100 0 _ _ _ ?_
  exact at10 n 0 (by omega) sd sf (-1) 0 1 ⟨rfl, rfl, rfl⟩ 0 rfl
theorem c_giveRest (l : Launch) (n L : Nat) (hn1 : 1 ≤ n) (hn : n ≤ 5) (hL : L ≤ 30) (s : lSt) (hd : s.2.2.2 < 32) (hc : cnB s.2.2.2 n < n) (En : Nat → Int64) (Ho Sv : Nat → Int32) (hC : LC n (n - 1) s En Ho Sv) (sh : Int32) (sd sf : Int64) : Ev l zX0_giveRest [.inr (15, 0)] [lnO (nI n) (nI L) (kL s.2.1) sh sd sf, lA 18 6 En, iA 19 5 Ho, bA 20 5 Sv] (fun r h' => r = none ∧ ∃ (En' : Nat → Int64) (Ho' : Nat → Int32), (∀ j, j ≤ n → En' j = kL (if j = n then L * s.2.1 else s.1 j)) ∧ (∀ j, j < n → Ho' j = nI (if j = n - 1 then lastU s.2.2.2 n else s.2.2.1 j)) ∧ h' = [lnO (nI n) (nI L) (kL s.2.1) sh sd sf, lA 18 6 En', iA 19 5 Ho', bA 20 5 Sv]) := by
  obtain ⟨c1, c2, c3⟩ := hC
  obtain ⟨i0, hi0, ht0⟩ := cnB_ex s.2.2.2 hd n (by omega) hc
  have hn1' : nI n - 1 = nI (n - 1) := pk_sub (b := 1) hn1
  have cn1 : (nI n - 1).toNatClampNeg = n - 1 := by rw [hn1']; exact nI_clamp (by omega)
  have cn : (nI n).toNatClampNeg = n := nI_clamp (by omega)
  refine ev_all okX0_giveRest (by decide +kernel) (Nat.le_of_ble_eq_true rfl) ?_
  intro K hK
  have loop : ∀ (e i : Nat), i + e = n → ∀ (Ho : Nat → Int32), (∀ j, j < n - 1 → Ho j = nI (s.2.2.1 j)) → ((∃ q, q < i ∧ s.2.2.2.testBit q = false) → Ho (n - 1) = nI (lastU s.2.2.2 i)) → ∀ I : Int32, I = nI i → K 2 [(0, .inr (15, 0)), (1, vI I)] [] [lnO (nI n) (nI L) (kL s.2.1) sh sd sf, lA 18 6 En, iA 19 5 Ho, bA 20 5 Sv] := by
    intro e
    induction e with
    | zero =>
      intro i hi Ho h1 h2 I hI
      have hi : i = n := hi
      subst hi; subst hI
      refine hK [] 60 2 _ _ _ ?_
      refine And.intro (fun _ => ?_) (fun z => absurd (Int32.le_refl _) z)
      refine And.intro (vp_in_nI (by omega) (by omega)) (And.intro ⟨rfl, ?_⟩ rfl)
      refine ⟨vp_updL En (nI i).toNatClampNeg ((nI L).toInt64 * kL s.2.1), Ho, fun j hj => ?_, fun j hj => ?_, rfl⟩
      · rw [cn]
        by_cases ej : j = i
        · rw [ej, us_L, if_pos rfl, kL_nI (by omega), kL_mul]
        · rw [un_L ej, if_neg ej]
          exact c1 j (by omega)
      · by_cases ej : j = i - 1
        · rw [if_pos ej, ej]
          exact h2 ⟨i0, hi0, ht0⟩
        · rw [if_neg ej]
          exact h1 j (by omega)
    | succ e ih =>
      intro i hi Ho h1 h2 I hI
      subst hI
      have hin : i < n := by omega
      have ci : (nI i).toNatClampNeg = i := nI_clamp (by omega)
      have hsv : Sv (nI i).toNatClampNeg = b2i (s.2.2.2.testBit i) := by rw [ci]; exact c3 i hin
      have hlu : lastU s.2.2.2 (i + 1) = if s.2.2.2.testBit i = true then lastU s.2.2.2 i else i := rfl
      refine hK [(2, [0, 1])] 60 2 _ _ _ ?_
      refine And.intro (fun z => absurd z (nI_ge (by omega) (by omega))) (fun _ => ?_)
      refine And.intro (vp_in_nI (by omega) (by omega)) ?_
      refine And.intro (fun z => ?_) (fun z => ?_)
      · have z : ¬ Sv (nI i).toNatClampNeg = 0 := z
        rw [hsv] at z
        have z := b2i1 z
        refine ih (i + 1) (by omega) Ho h1 (fun ⟨q, q1, q2⟩ => ?_) _ (nI_1 i)
        rw [hlu, if_pos z]
        refine h2 ⟨q, ?_, q2⟩
        by_cases eq : q = i
        · rw [eq, z] at q2; cases q2
        · omega
      · have z : Sv (nI i).toNatClampNeg = 0 := z
        rw [hsv] at z
        have z := b2i0 z
        refine And.intro (by show vp_in (nI n - 1) 5; rw [hn1']; exact vp_in_nI (by omega) (by omega)) ?_
        refine ih (i + 1) (by omega) _ (fun j hj => ?_) (fun _ => ?_) _ (nI_1 i)
        · show upd Ho (nI n - 1).toNatClampNeg (nI i) j = _
          rw [cn1, pk_un (by omega)]
          exact h1 j hj
        · show upd Ho (nI n - 1).toNatClampNeg (nI i) (n - 1) = _
          rw [cn1, pk_us, hlu, if_neg (by rw [z]; decide)]
  refine hK [(2, [0, 1])] 60 0 _ _ _ ?_
  exact loop n 0 (by omega) Ho c2 (fun ⟨q, q1, _⟩ => absurd q1 (Nat.not_lt_zero q)) 0 rfl
theorem c_share (l : Launch) (n L : Nat) (S : Nat → Nat → Nat) (M Ah : Nat → Nat → Int32) (En : Nat → Int64) (Ho Sv : Nat → Int32) (ct st : Int32) (un : Int64) (sh : Int32) (sd sf : Int64) (hB : LB n L S M Ah ct st) (hS : sh = 0 ∨ (sh = 1 ∧ LQ n L S Ah En Ho un)) : Ev l zX0_share [.inr (15, 0)] (lnH M Ah En Ho Sv ct st un sh sd sf) (fun r h' => r = none ∧ ∃ (Ah : Nat → Nat → Int32) (En : Nat → Int64) (Ho Sv : Nat → Int32) (un sd sf : Int64), LB n L S M Ah ct st ∧ LQ n L S Ah En Ho un ∧ h' = lnH M Ah En Ho Sv ct st un 1 sd sf) := by
  obtain ⟨b1, b2, b3, b4, rfl, rfl, b7, b8⟩ := id hB
  have hS30 : ∀ p j, p < n → j < L → S p j ≤ 30 := fun p j hp hj => (b7 p j hp hj).1
  refine ev_all okX0_share (by decide +kernel) (Nat.le_of_ble_eq_true rfl) ?_
  intro K hK
  rcases hS with rfl | ⟨rfl, hQ⟩
  · -- the cuts
    have at97 : ∀ (Ah : Nat → Nat → Int32), (∀ p, p < 5 → Ah p 0 = 0) → LM n L S M Ah → ∀ (e k : Nat), k + e = n - 1 → ∀ (En : Nat → Int64) (Ho Sv : Nat → Int32) (sd sf : Int64), LC n k (lSq n L S k) En Ho Sv → ∀ X : Int32, X = nI k → K 97 [(0, .inr (15, 0)), (1, vI X)] [] (lnH M Ah En Ho Sv (nI n) (nI L) (kL (lSq n L S k).2.1) 1 sd sf) := by
      intro Ah hA0 hM e
      have hn1' : nI n - 1 = nI (n - 1) := pk_sub (b := 1) b1
      induction e with
      | zero =>
        intro k hk En Ho Sv sd sf hC X hX
        have hk : k = n - 1 := hk
        subst hk; subst hX
        have hI := lSq_ok b1 b2 b3 hS30 (n - 1) (by omega)
        refine hK [] 60 97 _ _ _ ?_
        refine And.intro (fun _ => ?_) (fun z => absurd (by show nI n - 1 ≤ nI (n - 1); rw [hn1']; exact Int32.le_refl _) z)
        refine ⟨[15, 18, 19, 20], _, c_giveRest l n L b1 b2 b4 (lSq n L S (n - 1)) hI.2.2.1.1 (by rw [hI.2.2.1.2]; omega) En Ho Sv hC 1 sd sf, fun r hc' hP _ => ?_⟩
        obtain ⟨rfl, En', Ho', g1, g2, rfl⟩ := hP
        refine And.intro ⟨rfl, Ah, En', Ho', Sv, _, sd, sf, ⟨b1, b2, b3, b4, rfl, rfl, b7, hA0⟩, ⟨rfl, g1, g2, hM.2.2.2.2.2⟩, rfl⟩ rfl
      | succ e ih =>
        intro k hk En Ho Sv sd sf hC X hX
        subst hX
        have hI := lSq_ok b1 b2 b3 hS30 k (by omega)
        obtain ⟨b, pl, f, hp, -⟩ := LI_step b1 b2 b3 hS30 (by omega) hI
        have hst : lSq n L S (k + 1) = lSt1 k (lSq n L S k) (b, pl, f) := by
          show lStep n L S k (lSq n L S k) = _
          unfold lStep
          rw [hp]
        refine hK [(97, [0, 1])] 60 97 _ _ _ ?_
        refine And.intro (fun z => absurd z (by show ¬ nI n - 1 ≤ nI k; rw [hn1']; exact nI_ge (by omega) (by omega))) (fun _ => ?_)
        refine ⟨[15, 16, 17, 18, 19, 20], _, c_cutOff l n L S M Ah hM k (by omega) (lSq n L S k) hI En Ho Sv hC 1 sd sf (b, pl, f) hp _ rfl, fun r hc' hP _ => ?_⟩
        obtain ⟨rfl, En', Ho', Sv', sd', sf', g1, rfl⟩ := hP
        rw [← hst] at g1 ⊢
        exact ih (k + 1) (by omega) En' Ho' Sv' sd' sf' g1 _ (nI_1 k)
    have at15 : ∀ (e p : Nat), p + e = n → ∀ (Ah : Nat → Nat → Int32) (Sv : Nat → Int32), (∀ q, q < 5 → Ah q 0 = 0) → (∀ q k, q < p → k ≤ L → Ah q k = nI (aS S q k)) → (∀ q, q < p → Sv q = 0) → ∀ P : Int32, P = nI p → K 15 [(0, .inr (15, 0)), (1, vI P)] [] (lnH M Ah En Ho Sv (nI n) (nI L) un 1 sd sf) := by
      intro e
      induction e with
      | zero =>
        intro p hp Ah Sv hA0 hA hSv P hP
        have hp : p = n := hp
        subst hp; subst hP
        have hM : LM p L S M Ah := ⟨b1, b2, b3, b4, b7, hA⟩
        refine hK [(97, [0, 1])] 60 15 _ _ _ ?_
        refine And.intro (fun _ => ?_) (fun z => absurd (Int32.le_refl _) z)
        refine And.intro (show vp_in (nI 0) 6 from vp_in_nI (by omega) (by omega)) ?_
        have g := at97 Ah hA0 hM (p - 1) 0 (by omega) (vp_updL En (0 : Int32).toNatClampNeg 0) Ho Sv sd sf ⟨fun j hj => ?_, fun j hj => absurd hj (Nat.not_lt_zero j), fun i hi => ?_⟩ 0 rfl
        · have g : K 97 [(0, .inr (15, 0)), (1, vI 0)] [] (lnH M Ah (vp_updL En (0 : Int32).toNatClampNeg 0) Ho Sv (nI p) (nI L) (kL p) 1 sd sf) := g
          rw [← kL_nI (by omega)] at g
          exact g
        · rw [Nat.le_zero.mp hj, show (0 : Int32).toNatClampNeg = 0 by decide, us_L]
          rfl
        · rw [hSv i hi]
          show 0 = b2i ((0 : Nat).testBit i)
          rw [Nat.zero_testBit]
          rfl
      | succ e ih =>
        intro p hp Ah Sv hA0 hA hSv P hP
        subst hP
        have hpn : p < n := by omega
        have cp : (nI p).toNatClampNeg = p := nI_clamp (by omega)
        have at32 : ∀ (f k : Nat), k + f = L → ∀ (Ah : Nat → Nat → Int32) (Sv : Nat → Int32), (∀ q, q < 5 → Ah q 0 = 0) → (∀ q k, q < p → k ≤ L → Ah q k = nI (aS S q k)) → (∀ j, j ≤ k → Ah p j = nI (aS S p j)) → (∀ q, q < p + 1 → Sv q = 0) → ∀ X : Int32, X = nI k → K 32 [(0, .inr (15, 0)), (1, vI (nI p)), (2, vI X)] [] (lnH M Ah En Ho Sv (nI n) (nI L) un 1 sd sf) := by
          intro f
          induction f with
          | zero =>
            intro k hk Ah Sv hA0 hA hAp hSv X hX
            have hk : k = L := hk
            subst hk; subst hX
            refine hK [(15, [0, 1])] 60 32 _ _ _ ?_
            refine And.intro (fun _ => ?_) (fun z => absurd (Int32.le_refl _) z)
            refine ih (p + 1) (by omega) Ah Sv hA0 (fun q j hq hj => ?_) hSv _ (nI_1 p)
            by_cases eq : q = p
            · rw [eq]; exact hAp j hj
            · exact hA q j (by omega) hj
          | succ f ihf =>
            intro k hk Ah Sv hA0 hA hAp hSv X hX
            subst hX
            have ck : (nI k).toNatClampNeg = k := nI_clamp (by omega)
            have ck1 : (nI k + 1).toNatClampNeg = k + 1 := by rw [nI_1]; exact nI_clamp (by omega)
            refine hK [(32, [0, 1, 2])] 60 32 _ _ _ ?_
            refine And.intro (fun z => absurd z (nI_ge (by omega) (by omega))) (fun _ => ?_)
            refine And.intro (vp_in_nI (by omega) (by omega)) (And.intro (vp_in_nI (by omega) (by omega)) (And.intro (by rw [cp]; omega) (And.intro (vp_in_nI (by omega) (by omega)) (And.intro (vp_in_nI (by omega) (by omega)) (And.intro (by rw [cp]; omega) (And.intro (vp_in_nI (by omega) (by omega)) (And.intro (by rw [cp]; omega) (And.intro (by show vp_in (nI k + 1) 31; rw [nI_1]; exact vp_in_nI (by omega) (by omega)) ?_))))))))
            have hval : Ah p k + M p k = nI (aS S p (k + 1)) := by
              rw [hAp k (Nat.le_refl k), (b7 p k hpn (by omega)).2, nI_add]
              rfl
            have hrow : ∀ q j, x_row Ah (nI p).toNatClampNeg (upd (Ah (nI p).toNatClampNeg) (nI k + 1).toNatClampNeg (Ah (nI p).toNatClampNeg (nI k).toNatClampNeg + M (nI p).toNatClampNeg (nI k).toNatClampNeg)) q j = if q = p ∧ j = k + 1 then nI (aS S p (k + 1)) else Ah q j := by
              intro q j
              rw [cp, ck, ck1, hval]
              unfold x_row
              by_cases eq : q = p
              · rw [if_pos eq, eq]
                by_cases ej : j = k + 1
                · rw [ej, pk_us, if_pos ⟨rfl, rfl⟩]
                · rw [pk_un ej, if_neg (fun w => ej w.2)]
              · rw [if_neg eq, if_neg (fun w => eq w.1)]
            refine ihf (k + 1) (by omega) _ Sv (fun q hq => ?_) (fun q j hq hj => ?_) (fun j hj => ?_) hSv _ (nI_1 k)
            · refine (hrow q 0).trans ?_
              rw [if_neg (by omega)]
              exact hA0 q hq
            · refine (hrow q j).trans ?_
              rw [if_neg (by omega)]
              exact hA q j hq hj
            · refine (hrow p j).trans ?_
              by_cases ej : j = k + 1
              · rw [if_pos ⟨rfl, ej⟩, ej]
              · rw [if_neg (fun w => ej w.2)]
                exact hAp j (by omega)
        refine hK [(32, [0, 1, 2])] 60 15 _ _ _ ?_
        refine And.intro (fun z => absurd z (nI_ge (by omega) (by omega))) (fun _ => ?_)
        refine And.intro (vp_in_nI (by omega) (by omega)) (And.intro (Or.inl rfl) ?_)
        refine at32 L 0 (by omega) Ah _ hA0 hA (fun j hj => ?_) (fun q hq => ?_) 0 rfl
        · rw [Nat.le_zero.mp hj, hA0 p (by omega)]
          rfl
        · show upd Sv (nI p).toNatClampNeg 0 q = 0
          rw [cp]
          by_cases eq : q = p
          · rw [eq, pk_us]
          · rw [pk_un eq]
            exact hSv q (by omega)
    refine hK [(15, [0, 1])] 60 0 _ _ _ ?_
    refine And.intro (fun _ => ?_) (fun z => absurd rfl z)
    refine And.intro (Or.inr rfl) ?_
    exact at15 n 0 (by omega) Ah Sv b8 (fun q k hq => absurd hq (Nat.not_lt_zero q)) (fun q hq => absurd hq (Nat.not_lt_zero q)) 0 rfl
  · refine hK [] 60 0 _ _ _ ?_
    refine And.intro (fun z => absurd z (by decide)) (fun _ => ?_)
    exact And.intro ⟨rfl, Ah, En, Ho, Sv, un, sd, sf, hB, hQ, rfl⟩ rfl
