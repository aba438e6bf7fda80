/-! ===== the reference: says, isLess, cuts ===== -/
theorem rd_less {a b c d : Nat} (hb : 0 < b) (hd : 0 < d) : rdN a b * rdD c d < rdN c d * rdD a b ↔ a * d < c * b := by
  obtain ⟨g, hg, e1, e2, -⟩ := rd_of (a := a) hb
  obtain ⟨g', hg', e3, e4, -⟩ := rd_of (a := c) hd
  generalize rdN a b = N at *
  generalize rdD a b = D at *
  generalize rdN c d = N' at *
  generalize rdD c d = D' at *
  have h1 : a * d = N * D' * (g * g') := by rw [e1, e4]; grind
  have h2 : c * b = N' * D * (g * g') := by rw [e3, e2]; grind
  rw [h1, h2]
  exact (Nat.mul_lt_mul_right (Nat.mul_pos hg hg')).symm
theorem rd_le {a b : Nat} (hb : 0 < b) : rdN a b ≤ a ∧ rdD a b ≤ b := ⟨Nat.div_le_self _ _, Nat.div_le_self _ _⟩
theorem m_isLess (l : Launch) (a b c d : Nat) (h1 : a * d < 2 ^ 62) (h2 : c * b < 2 ^ 62) (x y z w : Int64) (hx : x = kL a) (hy : y = kL b) (hz : z = kL c) (hw : w = kL d) : Ev l zX5_isLess [vL x, vL y, vL z, vL w] [] (fun r h' => r = some (vI (b2i (decide (a * d < c * b)))) ∧ h' = []) := by
  subst hx; subst hy; subst hz; subst hw
  refine ev_run okX5_isLess (by decide +kernel) (Nat.le_of_ble_eq_true rfl) 60 ?_
  refine And.intro (fun q => ?_) (fun q => ?_)
  · have q : kL c * kL b ≤ kL a * kL d := q
    rw [kL_mul, kL_mul, kL_le (by omega) (by omega)] at q
    refine And.intro (Or.inl rfl) (And.intro ⟨?_, rfl⟩ rfl)
    rw [decide_eq_false (by omega)]
    rfl
  · have q : ¬ kL c * kL b ≤ kL a * kL d := q
    rw [kL_mul, kL_mul, kL_le (by omega) (by omega)] at q
    refine And.intro (Or.inr rfl) (And.intro ⟨?_, rfl⟩ rfl)
    rw [decide_eq_true (by omega)]
    rfl
/-- the reference's numbers are the class's, up to a factor -/
theorem says_rd {n U W up low G w k f A sd : Nat} (hn : 0 < n) (hG : 0 < G) (hU : U = low * G) (hnw : n * w = n * (up * G) + W * U) (hAw : A * U ≤ w) (hsd : sd = k * U * f + (w - A * U)) : rdN (k * f * (low * n) + (up * n + W * low) - A * (low * n)) (f * (low * n)) = rdN sd (U * f) ∧ rdD (k * f * (low * n) + (up * n + W * low) - A * (low * n)) (f * (low * n)) = rdD sd (U * f) := by
  have hw1 : n * w = (up * n + W * low) * G := by rw [hnw, hU]; grind
  have hA1 : A * (low * n) ≤ up * n + W * low := by
    apply Nat.le_of_mul_le_mul_right _ hG
    have h1 : n * (A * U) ≤ n * w := Nat.mul_le_mul_left n hAw
    rw [hw1, hU] at h1
    have h2 : A * (low * n) * G = n * (A * (low * G)) := by grind
    rw [h2]
    exact h1
  obtain ⟨r1, r2⟩ := rd_mul (k * f * (low * n) + (up * n + W * low) - A * (low * n)) (f * (low * n)) G hG
  obtain ⟨r3, r4⟩ := rd_mul sd (U * f) n hn
  have e1 : (k * f * (low * n) + (up * n + W * low) - A * (low * n)) * G = sd * n := by
    obtain ⟨z, hz⟩ : ∃ z, up * n + W * low = A * (low * n) + z := ⟨up * n + W * low - A * (low * n), by omega⟩
    obtain ⟨y, hy⟩ : ∃ y, w = A * U + y := ⟨w - A * U, by omega⟩
    have e3 : n * y = z * G := by
      rw [hy, hz, hU] at hw1
      have h1 : n * (A * (low * G) + y) = n * (A * (low * G)) + n * y := Nat.mul_add _ _ _
      have h2 : (A * (low * n) + z) * G = A * (low * n) * G + z * G := Nat.add_mul _ _ _
      have h3 : A * (low * n) * G = n * (A * (low * G)) := by grind
      omega
    rw [hz, show k * f * (low * n) + (A * (low * n) + z) - A * (low * n) = k * f * (low * n) + z by omega, hsd, hy, show A * U + y - A * U = y by omega, Nat.add_mul, Nat.add_mul, ← e3, hU]
    grind
  have e2 : f * (low * n) * G = U * f * n := by rw [hU]; grind
  rw [← r1, ← r2, ← r3, ← r4, e1, e2]
  exact ⟨rfl, rfl⟩
theorem m_says (l : Launch) (n L : Nat) (S : Nat → Nat → Nat) (hn1 : 1 ≤ n) (hn : n ≤ 5) (hL1 : 1 ≤ L) (hL : L ≤ 30) (th : Int32) (nk nt rm : Nat → Int32) (lg : Nat → Int64) (sa : Nat → Int32) (hr : rm 0 = nI n) (hs : MLS n L S sa) (U : Nat) (hU1 : 1 ≤ U) (hU : U ≤ 4050000) (hdv : n * (U / n) = U) (m : Nat) (hm : m + 1 ≤ n) (p : Nat) (hp : p < n) (e : Nat) (he : e ≤ L * U) (hv : n * pa L S p e U ≤ m * aS S p L * U) (x : Int32) (y z : Int64) (hx : x = nI p) (hy : y = kL (rdN e U)) (hz : z = kL (rdD e U)) : Ev l zX5_says [.inr (40, 0), vI x, vL y, vL z] (mwH th nk nt rm (nI L) lg sa) (fun r h' => r = none ∧ ∃ lg' : Nat → Int64, lg' 0 = kL (rdN (sS n L S p e U) (U * fS n L S p e U)) ∧ lg' 1 = kL (rdD (sS n L S p e U) (U * fS n L S p e U)) ∧ h' = mwH th nk nt rm (nI L) lg' sa) := by
  subst hx; subst hy; subst hz
  obtain ⟨g, hg, ea, eb, hb1⟩ := rd_of (a := e) (show 0 < U by omega)
  have hle := rd_le (a := e) (show 0 < U by omega)
  generalize ha2 : rdN e U = a at *
  generalize hb2 : rdD e U = b at *
  have haL : a ≤ L * b := by
    apply Nat.le_of_mul_le_mul_right _ hg
    rw [ea, eb] at he
    have : L * (b * g) = L * b * g := by grind
    omega
  have hW900 := MLS_le hs hL hp (Nat.le_refl L)
  refine ev_all okX5_says (by decide +kernel) (Nat.le_of_ble_eq_true rfl) ?_
  intro K hK
  refine hK [(67, [0, 1, 7, 9, 11, 13])] 80 0 _ _ _ ?_
  refine ⟨[40, 53], _, m_wholeOf l n L S hn hL th nk nt rm lg sa hs p hp _ rfl, fun r hc' hP _ => ?_⟩
  obtain ⟨rfl, rfl⟩ := hP
  have hz0 : nI (aS S p L) = 0 ↔ aS S p L = 0 := nI_eq (b := 0) (by omega) (by omega)
  refine And.intro (fun z => ?_) (fun z => ?_)
  · have z : ¬ aS S p L = 0 := fun w => z (hz0.mpr w)
    obtain ⟨q1, q2, q3, q4, q5, q6, q7, q8, q9⟩ := sp_ok hn1 hL1 hdv hU1 z hm hv
    refine ⟨[40, 53], _, m_worthTo l n L S hn hL th nk nt rm (nI L) lg sa hs p hp a b hb1 (by omega) haL _ _ _ rfl rfl rfl, fun r hc' hP _ => ?_⟩
    obtain ⟨rfl, lg1, l0, l1, rfl⟩ := hP
    obtain ⟨h, hh, ep, eb2, hlow1⟩ := rd_of (a := pa L S p a b) hb1
    have hle2 := rd_le (a := pa L S p a b) hb1
    have hpab : pa L S p a b ≤ 900 * b := Nat.le_trans (pa_le L S p a b) (Nat.mul_le_mul_right b hW900)
    generalize rdN (pa L S p a b) b = up at *
    generalize rdD (pa L S p a b) b = low at *
    have hG : 0 < h * g := Nat.mul_pos hh hg
    have hUG : U = low * (h * g) := by rw [eb, eb2]; grind
    have hpG : pa L S p e U = up * (h * g) := by
      rw [ea, eb, pa_mul, ep]
      grind
    have hnw : n * wS n L S p e U = n * (up * (h * g)) + aS S p L * U := by rw [q8, hpG]
    have b1 : up * n ≤ 900 * b * 5 := Nat.mul_le_mul (by omega) hn
    have b2 : aS S p L * low ≤ 900 * b := Nat.mul_le_mul hW900 hle2.2
    have b3 : low * n ≤ b * 5 := Nat.mul_le_mul hle2.2 hn
    have eU : lg1 0 * (rm 0).toInt64 + (nI (aS S p L)).toInt64 * lg1 1 = kL (up * n + aS S p L * low) := by
      rw [l0, l1, hr, kL_nI (by omega), kL_nI (by omega), kL_mul, kL_mul, kL_add]
    have eL : lg1 1 * (rm 0).toInt64 = kL (low * n) := by rw [l1, hr, kL_nI (by omega), kL_mul]
    -- the comparison
    have hcmp : ∀ c : Nat, c * (low * n) < up * n + aS S p L * low ↔ c * U < wS n L S p e U := by
      intro c
      have e1 : c * (low * n) * (h * g) = c * U * n := by rw [hUG]; grind
      have e2 : (up * n + aS S p L * low) * (h * g) = wS n L S p e U * n := by
        rw [Nat.mul_comm (wS n L S p e U) n, hnw]
        generalize aS S p L = V
        rw [hUG]
        grind
      rw [← Nat.mul_lt_mul_right (show 0 < h * g from hG), e1, e2, Nat.mul_lt_mul_right (by omega)]
    have at116 : ∀ j : Nat, kS n L S p e U = j → ∀ A : Int64, A = kL (aS S p j) → K 116 [(0, .inr (40, 0)), (1, vI (nI p)), (7, vL (kL (up * n + aS S p L * low))), (9, vL (kL (low * n))), (11, vL A), (13, vI (nI j))] [] (mwH th nk nt rm (nI L) lg1 sa) := by
      intro j hj A hA
      subst hj; subst hA
      have ef : fS n L S p e U = S p (kS n L S p e U) := by unfold fS; rw [if_neg z]
      have es : sS n L S p e U = kS n L S p e U * U * S p (kS n L S p e U) + (wS n L S p e U - aS S p (kS n L S p e U) * U) := by unfold sS; rw [if_neg z]
      have s1 := (hs p (kS n L S p e U) hp q1).1
      have s2 := (hs p (kS n L S p e U) hp q1).2
      have hrd := says_rd (by omega) hG hUG hnw (Nat.le_of_lt q2) es
      have hAle : aS S p (kS n L S p e U) * (low * n) ≤ up * n + aS S p L * low := by
        have := (hcmp (aS S p (kS n L S p e U))).mpr q2
        omega
      generalize kS n L S p e U = j at *
      obtain ⟨i1, i2⟩ := idx30_v (a := p) (b := j) (by omega) (by omega)
      have eS : (sa (30 * nI p + nI j).toNatClampNeg).toInt64 = kL (S p j) := by rw [i2, s2, kL_nI (by omega)]
      have c1 : j * S p j ≤ 30 * 30 := Nat.mul_le_mul (by omega) s1
      have c2 : j * S p j * (low * n) ≤ 900 * (b * 5) := Nat.mul_le_mul c1 b3
      have c3 : S p j * (low * n) ≤ 30 * (b * 5) := Nat.mul_le_mul s1 b3
      have c4 : 1 * 1 ≤ S p j * (low * n) := Nat.mul_le_mul q4 (Nat.mul_pos hlow1 (by omega))
      refine hK [] 80 116 _ _ _ ?_
      refine And.intro i1 ?_
      refine ⟨[40], _, m_fraction l (j * S p j * (low * n) + (up * n + aS S p L * low) - aS S p j * (low * n)) (S p j * (low * n)) (by omega) (by omega) (by omega) th nk nt rm (nI L) lg1 _ _ ?_ ?_, fun r hc' hP _ => ?_⟩
      · show (nI j).toInt64 * (sa (30 * nI p + nI j).toNatClampNeg).toInt64 * kL (low * n) + kL (up * n + aS S p L * low) - kL (aS S p j) * kL (low * n) = _
        rw [eS, kL_nI (by omega), kL_mul, kL_mul, kL_mul, kL_add, kL_sub (by omega)]
      · show (sa (30 * nI p + nI j).toNatClampNeg).toInt64 * kL (low * n) = _
        rw [eS, kL_mul]
      · obtain ⟨rfl, lg', g1, g2, rfl⟩ := hP
        refine And.intro ⟨rfl, lg', ?_, ?_, rfl⟩ rfl
        · rw [g1, hrd.1, ef]
        · rw [g2, hrd.2, ef]
    have loop : ∀ (f j : Nat), j + f = L - 1 → kS n L S p e U = kF S p (wS n L S p e U) U f j → ∀ (A : Int64) (J : Int32), A = kL (aS S p j) → J = nI j → K 67 [(0, .inr (40, 0)), (1, vI (nI p)), (7, vL (kL (up * n + aS S p L * low))), (9, vL (kL (low * n))), (11, vL A), (13, vI J)] [] (mwH th nk nt rm (nI L) lg1 sa) := by
      intro f
      induction f with
      | zero => ?_
      | succ f ih => ?_
      all_goals
        intro j hj hkf A J hA hJ
        subst hA; subst hJ
        obtain ⟨i1, i2⟩ := idx30_v (a := p) (b := j) (by omega) (by omega)
        have s1 := (hs p j hp (by omega)).1
        have s2 := (hs p j hp (by omega)).2
        have eS : kL (aS S p j) + (sa (30 * nI p + nI j).toNatClampNeg).toInt64 = kL (aS S p (j + 1)) := by
          rw [i2, s2, kL_nI (by omega), kL_add]
          rfl
        have a2 := MLS_le hs hL hp (show j + 1 ≤ L by omega)
        have c1 : aS S p (j + 1) * (low * n) ≤ 900 * (b * 5) := Nat.mul_le_mul a2 b3
        have hc := hcmp (aS S p (j + 1))
      · have hj : j = L - 1 := hj
        refine hK [(116, [0, 1, 7, 9, 11, 13])] 80 67 _ _ _ ?_
        refine And.intro i1 ?_
        refine And.intro (fun _ => at116 j hkf _ rfl) (fun v => ?_)
        exfalso
        have v : ¬ kL (up * n + aS S p L * low) ≤ (kL (aS S p j) + (sa (30 * nI p + nI j).toNatClampNeg).toInt64) * kL (low * n) := v
        rw [eS, kL_mul, kL_le (by omega) (by omega)] at v
        have := hc.mp (by omega)
        rw [show j + 1 = L by omega] at this
        omega
      · rw [show kF S p (wS n L S p e U) U (f + 1) j = if aS S p (j + 1) * U < wS n L S p e U then kF S p (wS n L S p e U) U f (j + 1) else j from rfl] at hkf
        refine hK [(116, [0, 1, 7, 9, 11, 13]), (67, [0, 1, 7, 9, 11, 13])] 80 67 _ _ _ ?_
        refine And.intro i1 ?_
        refine And.intro (fun v => ?_) (fun v => ?_)
        · have v : kL (up * n + aS S p L * low) ≤ (kL (aS S p j) + (sa (30 * nI p + nI j).toNatClampNeg).toInt64) * kL (low * n) := v
          rw [eS, kL_mul, kL_le (by omega) (by omega)] at v
          rw [if_neg (fun w => by have := hc.mpr w; omega)] at hkf
          exact at116 j hkf _ rfl
        · have v : ¬ kL (up * n + aS S p L * low) ≤ (kL (aS S p j) + (sa (30 * nI p + nI j).toNatClampNeg).toInt64) * kL (low * n) := v
          rw [eS, kL_mul, kL_le (by omega) (by omega)] at v
          rw [if_pos (hc.mp (by omega))] at hkf
          refine And.intro i1 ?_
          exact ih (j + 1) (by omega) hkf _ _ eS (nI_1 j)
    have g2 := loop (L - 1) 0 (by omega) rfl 0 0 rfl rfl
    rw [← eU, ← eL] at g2
    exact g2
  · have z := hz0.mp z
    have es : sS n L S p e U = e := by unfold sS; rw [if_pos z]
    have ef : fS n L S p e U = 1 := by unfold fS; rw [if_pos z]
    refine ⟨[40], _, m_fraction l a b (by have := Nat.mul_le_mul_right b hL; omega) hb1 (by omega) th nk nt rm (nI L) lg _ _ rfl rfl, fun r hc' hP _ => ?_⟩
    obtain ⟨rfl, lg', g1, g2, rfl⟩ := hP
    have hrr := rd_mul a b g hg
    refine And.intro ⟨rfl, lg', ?_, ?_, rfl⟩ rfl
    · rw [es, ef, Nat.mul_one, g1, ← hrr.1, ← ea, ← eb]
    · rw [es, ef, Nat.mul_one, g2, ← hrr.2, ← ea, ← eb]
