/-! ===== Line: pieces, speaking ===== -/
def LM (n L : Nat) (S : Nat → Nat → Nat) (M Ah : Nat → Nat → Int32) : Prop := 1 ≤ n ∧ n ≤ 5 ∧ 1 ≤ L ∧ L ≤ 30 ∧ (∀ p j, p < n → j < L → S p j ≤ 30 ∧ M p j = nI (S p j)) ∧ ∀ p k, p < n → k ≤ L → Ah p k = nI (aS S p k)
abbrev laH (M Ah : Nat → Nat → Int32) (ct st : Int32) (un : Int64) (sh : Int32) (sd sf : Int64) : xH := [lnO ct st un sh sd sf, gA 16 5 30 M, gA 17 5 31 Ah]
theorem aS_le {n L : Nat} {S : Nat → Nat → Nat} {M Ah : Nat → Nat → Int32} (h : LM n L S M Ah) {p k : Nat} (hp : p < n) (hk : k ≤ L) : aS S p k ≤ 900 := by
  have h1 := sm_le (f := S p) (b := 30) (n := k) (fun i hi => (h.2.2.2.2.1 p i hp (by omega)).1)
  have h2 := h.2.2.2.1
  unfold aS
  omega
theorem c_ahead (l : Launch) (n L : Nat) (S : Nat → Nat → Nat) (M Ah : Nat → Nat → Int32) (hM : LM n L S M Ah) (sh : Int32) (sd sf : Int64) (U : Nat) (hU1 : 1 ≤ U) (hU : U ≤ 4050000) (p : Nat) (hp : p < n) (e : Nat) (he : e ≤ L * U) (x : Int32) (y : Int64) (hx : x = nI p) (hy : y = kL e) : Ev l zX0_piecesAhead [.inr (15, 0), vI x, vL y] (laH M Ah (nI n) (nI L) (kL U) sh sd sf) (fun r h' => r = some (vL (kL (pa L S p e U))) ∧ h' = laH M Ah (nI n) (nI L) (kL U) sh sd sf) := by
  subst hx; subst hy
  obtain ⟨h1, h2, h3, h4, h5, h6⟩ := id hM
  have cp : (nI p).toNatClampNeg = p := nI_clamp (by omega)
  have cL : (nI L).toNatClampNeg = L := nI_clamp (by omega)
  have heb : e ≤ 30 * U := Nat.le_trans he (Nat.mul_le_mul_right U h4)
  have hne : ¬ kL U = 0 := kL_n0 (by omega) (by omega)
  have hkL : e / U ≤ L := by
    have := Nat.div_le_div_right (c := U) he
    rw [Nat.mul_div_cancel _ (by omega)] at this
    exact this
  have ck : (nI (e / U)).toNatClampNeg = e / U := nI_clamp (by omega)
  have hk : (kL e / kL U).toInt32 = nI (e / U) := by
    rw [kL_div (by omega) (by omega), kL_toI (by omega)]
  have hk1 : e / U * U ≤ e := Nat.div_mul_le_self e U
  have hk2 : e < (e / U + 1) * U := by
    have := Nat.lt_mul_div_succ e (show 0 < U by omega)
    rw [Nat.mul_comm] at this
    exact this
  refine ev_all okX0_piecesAhead (by decide +kernel) (Nat.le_of_ble_eq_true rfl) ?_
  intro K hK
  have at20 : K 20 [(0, .inr (15, 0)), (1, vI (nI p)), (2, vL (kL e))] [vI (nI (e / U))] (laH M Ah (nI n) (nI L) (kL U) sh sd sf) := by
    refine hK [] 60 20 _ _ _ ?_
    refine And.intro (fun z => ?_) (fun z => ?_)
    · have z : nI (e / U) < nI L := z
      rw [nI_ltI (by omega) (by omega)] at z
      have s1 := (h5 p (e / U) hp z).1
      have a1 := aS_le hM hp hkL
      refine And.intro (vp_in_nI (by omega) (by omega)) (And.intro (by rw [cp]; omega) (And.intro (vp_in_nI (by omega) (by omega)) (And.intro (vp_in_nI (by omega) (by omega)) (And.intro (by rw [cp]; omega) (And.intro (vp_in_nI (by omega) (by omega)) (And.intro ⟨?_, rfl⟩ rfl))))))
      show some (vL ((Ah (nI p).toNatClampNeg (nI (e / U)).toNatClampNeg).toInt64 * kL U + (M (nI p).toNatClampNeg (nI (e / U)).toNatClampNeg).toInt64 * (kL e - (nI (e / U)).toInt64 * kL U))) = _
      rw [cp, ck, h6 p (e / U) hp hkL, (h5 p (e / U) hp z).2, kL_nI (by omega), kL_nI (by omega), kL_nI (by omega), kL_mul, kL_mul, kL_sub hk1, kL_mul, kL_add, pa_at z hk1 (Nat.le_of_lt hk2)]
    · have z : ¬ nI (e / U) < nI L := z
      rw [nI_ltI (by omega) (by omega)] at z
      have a1 := aS_le hM hp (Nat.le_refl L)
      refine And.intro (vp_in_nI (by omega) (by omega)) (And.intro (by rw [cp]; omega) (And.intro (vp_in_nI (by omega) (by omega)) (And.intro ⟨?_, rfl⟩ rfl)))
      show some (vL ((Ah (nI p).toNatClampNeg (nI L).toNatClampNeg).toInt64 * kL U)) = _
      have hLU : L * U ≤ e := by
        have e1 : e / U = L := by omega
        rw [e1] at hk1
        exact hk1
      rw [cp, cL, h6 p L hp (Nat.le_refl L), kL_nI (by omega), kL_mul, pa_end hLU]
  refine hK [(20, [0, 1, 2])] 60 0 _ _ _ ?_
  refine And.intro (fun _ => ?_) (fun z => absurd z hne)
  refine And.intro hne ?_
  have g := at20
  rw [← hk] at g
  exact g
theorem pa_bd {n L : Nat} {S : Nat → Nat → Nat} {M Ah : Nat → Nat → Int32} (h : LM n L S M Ah) {p e U : Nat} (hp : p < n) : pa L S p e U ≤ 900 * U := Nat.le_trans (pa_le L S p e U) (Nat.mul_le_mul_right U (aS_le h hp (Nat.le_refl L)))
theorem c_speak (l : Launch) (n L : Nat) (S : Nat → Nat → Nat) (M Ah : Nat → Nat → Int32) (hM : LM n L S M Ah) (sh : Int32) (sd sf : Int64) (U : Nat) (hU1 : 1 ≤ U) (hU : U ≤ 4050000) (hdv : n * (U / n) = U) (k : Nat) (hk : k + 1 ≤ n) (p : Nat) (hp : p < n) (e : Nat) (he : e ≤ L * U) (hv : n * pa L S p e U ≤ k * aS S p L * U) (x : Int32) (y : Int64) (hx : x = nI p) (hy : y = kL e) : Ev l zX0_speak [.inr (15, 0), vI x, vL y] (laH M Ah (nI n) (nI L) (kL U) sh sd sf) (fun r h' => r = none ∧ h' = laH M Ah (nI n) (nI L) (kL U) sh (kL (sS n L S p e U)) (kL (fS n L S p e U))) := by
  subst hx; subst hy
  obtain ⟨h1, h2, h3, h4, h5, h6⟩ := id hM
  have cp : (nI p).toNatClampNeg = p := nI_clamp (by omega)
  have cL : (nI L).toNatClampNeg = L := nI_clamp (by omega)
  have a1 := aS_le hM hp (Nat.le_refl L)
  have eA : (Ah (nI p).toNatClampNeg (nI L).toNatClampNeg).toInt64 = kL (aS S p L) := by
    rw [cp, cL, h6 p L hp (Nat.le_refl L), kL_nI (by omega)]
  refine ev_all okX0_speak (by decide +kernel) (Nat.le_of_ble_eq_true rfl) ?_
  intro K hK
  refine hK [(64, [0, 1, 6, 8])] 80 0 _ _ _ ?_
  refine And.intro (vp_in_nI (by omega) (by omega)) (And.intro (by rw [cp]; omega) (And.intro (vp_in_nI (by omega) (by omega)) ?_))
  have g : (kL (aS S p L) = 0 → aS S p L = 0) ∧ (¬ kL (aS S p L) = 0 → ¬ aS S p L = 0) := by
    have e0 : kL (aS S p L) = 0 ↔ aS S p L = 0 := kL_eq (b := 0) (by omega) (by omega)
    exact ⟨e0.mp, fun z w => z (e0.mpr w)⟩
  refine And.intro (fun z => ?_) (fun z => ?_)
  · have z : (Ah (nI p).toNatClampNeg (nI L).toNatClampNeg).toInt64 = 0 := z
    rw [eA] at z
    have z := g.1 z
    have es : sS n L S p e U = e := by unfold sS; rw [if_pos z]
    have ef : fS n L S p e U = 1 := by unfold fS; rw [if_pos z]
    exact And.intro ⟨rfl, by rw [es, ef]; rfl⟩ rfl
  · have z : ¬ (Ah (nI p).toNatClampNeg (nI L).toNatClampNeg).toInt64 = 0 := z
    rw [eA] at z
    have z := g.2 z
    obtain ⟨q1, q2, q3, q4, q5, q6, q7, q8, q9⟩ := sp_ok h1 h3 hdv hU1 z hk hv
    have hwb : wS n L S p e U ≤ 900 * U := Nat.le_trans q9 (Nat.mul_le_mul_right U a1)
    have hUn : U / n ≤ U := Nat.div_le_self U n
    refine And.intro (fun _ => ?_) (fun w => ?_)
    · refine ⟨[15, 16, 17], _, c_ahead l n L S M Ah hM sh (kL e) 1 U hU1 hU p hp e he _ _ rfl rfl, fun r hc' hP _ => ?_⟩
      obtain ⟨rfl, rfl⟩ := hP
      have hn0 : ¬ (nI n).toInt64 = 0 := by rw [kL_nI (by omega)]; exact kL_n0 (by omega) (by omega)
      refine And.intro hn0 ?_
      have ew : kL (pa L S p e U) + (Ah (nI p).toNatClampNeg (nI L).toNatClampNeg).toInt64 * (kL U / (nI n).toInt64) = kL (wS n L S p e U) := by
        rw [eA, kL_nI (by omega), kL_div (by omega) (by omega), kL_mul, kL_add]
        rfl
      -- the end, with the stretch found
      have at104 : ∀ j : Nat, kS n L S p e U = j → K 104 [(0, .inr (15, 0)), (1, vI (nI p)), (6, vL (kL (wS n L S p e U))), (8, vI (nI j))] [] (laH M Ah (nI n) (nI L) (kL U) sh (kL e) 1) := by
        intro j hj
        subst hj
        have ef : fS n L S p e U = S p (kS n L S p e U) := by unfold fS; rw [if_neg z]
        have es : sS n L S p e U = kS n L S p e U * U * S p (kS n L S p e U) + (wS n L S p e U - aS S p (kS n L S p e U) * U) := by unfold sS; rw [if_neg z]
        have s1 := (h5 p (kS n L S p e U) hp q1).1
        have s2 := (h5 p (kS n L S p e U) hp q1).2
        have a2 := aS_le hM hp (Nat.le_of_lt q1)
        have a3 := h6 p (kS n L S p e U) hp (Nat.le_of_lt q1)
        generalize kS n L S p e U = j at *
        have cj : (nI j).toNatClampNeg = j := nI_clamp (by omega)
        refine hK [] 80 104 _ _ _ ?_
        refine And.intro (vp_in_nI (by omega) (by omega)) (And.intro (by rw [cp]; omega) (And.intro (vp_in_nI (by omega) (by omega)) (And.intro (vp_in_nI (by omega) (by omega)) (And.intro (by rw [cp]; omega) (And.intro (vp_in_nI (by omega) (by omega)) (And.intro ⟨rfl, ?_⟩ rfl))))))
        show laH M Ah (nI n) (nI L) (kL U) sh ((nI j).toInt64 * kL U * (M (nI p).toNatClampNeg (nI j).toNatClampNeg).toInt64 + kL (wS n L S p e U) - (Ah (nI p).toNatClampNeg (nI j).toNatClampNeg).toInt64 * kL U) (M (nI p).toNatClampNeg (nI j).toNatClampNeg).toInt64 = _
        have e1 : (nI j).toInt64 * kL U * (M (nI p).toNatClampNeg (nI j).toNatClampNeg).toInt64 + kL (wS n L S p e U) - (Ah (nI p).toNatClampNeg (nI j).toNatClampNeg).toInt64 * kL U = kL (sS n L S p e U) := by
          rw [cp, cj, s2, a3, kL_nI (by omega), kL_nI (by omega), kL_nI (by omega), kL_mul, kL_mul, kL_mul, kL_add, kL_sub (by omega), es]
          congr 1
          omega
        have e2 : (M (nI p).toNatClampNeg (nI j).toNatClampNeg).toInt64 = kL (fS n L S p e U) := by
          rw [cp, cj, s2, kL_nI (by omega), ef]
        rw [e1, e2]
      have loop : ∀ (f j : Nat), j + f = L - 1 → kS n L S p e U = kF S p (wS n L S p e U) U f j → ∀ J : Int32, J = nI j → K 64 [(0, .inr (15, 0)), (1, vI (nI p)), (6, vL (kL (wS n L S p e U))), (8, vI J)] [] (laH M Ah (nI n) (nI L) (kL U) sh (kL e) 1) := by
        intro f
        have hL1 : nI L - 1 = nI (L - 1) := pk_sub (b := 1) (by omega)
        induction f with
        | zero =>
          intro j hj hkf J hJ
          have hj : j = L - 1 := hj
          subst hJ
          refine hK [(104, [0, 1, 6, 8])] 80 64 _ _ _ ?_
          refine And.intro (fun _ => at104 j hkf) (fun v => absurd (by show nI L - 1 ≤ nI j; rw [hL1, hj]; exact Int32.le_refl _) v)
        | succ f ih =>
          intro j hj hkf J hJ
          subst hJ
          rw [show kF S p (wS n L S p e U) U (f + 1) j = if aS S p (j + 1) * U < wS n L S p e U then kF S p (wS n L S p e U) U f (j + 1) else j from rfl] at hkf
          have cj1 : (nI j + 1).toNatClampNeg = j + 1 := by rw [nI_1]; exact nI_clamp (by omega)
          have a2 := aS_le hM hp (show j + 1 ≤ L by omega)
          have a2U : aS S p (j + 1) * U ≤ 900 * U := Nat.mul_le_mul_right U a2
          have ev : (Ah (nI p).toNatClampNeg (nI j + 1).toNatClampNeg).toInt64 * kL U = kL (aS S p (j + 1) * U) := by
            rw [cp, cj1, h6 p (j + 1) hp (by omega), kL_nI (by omega), kL_mul]
          refine hK [(104, [0, 1, 6, 8]), (64, [0, 1, 6, 8])] 80 64 _ _ _ ?_
          refine And.intro (fun v => absurd v (by show ¬ nI L - 1 ≤ nI j; rw [hL1]; exact nI_ge (by omega) (by omega))) (fun _ => ?_)
          refine And.intro (vp_in_nI (by omega) (by omega)) (And.intro (by rw [cp]; omega) (And.intro (by show vp_in (nI j + 1) 31; rw [nI_1]; exact vp_in_nI (by omega) (by omega)) ?_))
          refine And.intro (fun v => ?_) (fun v => ?_)
          · have v : kL (wS n L S p e U) ≤ (Ah (nI p).toNatClampNeg (nI j + 1).toNatClampNeg).toInt64 * kL U := v
            rw [ev, kL_le (by omega) (by omega)] at v
            rw [if_neg (by omega)] at hkf
            exact at104 j hkf
          · have v : ¬ kL (wS n L S p e U) ≤ (Ah (nI p).toNatClampNeg (nI j + 1).toNatClampNeg).toInt64 * kL U := v
            rw [ev, kL_le (by omega) (by omega)] at v
            rw [if_pos (by omega)] at hkf
            exact ih (j + 1) (by omega) hkf _ (nI_1 j)
      have g2 := loop (L - 1) 0 (by omega) rfl 0 rfl
      rw [← ew] at g2
      exact g2
    · exfalso
      have w : nI n = nI 0 := w
      rw [nI_eq (by omega) (by omega)] at w
      omega
