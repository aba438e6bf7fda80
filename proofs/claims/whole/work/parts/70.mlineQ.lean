/-! ===== the reference: who, place, worth, envies ===== -/
theorem m_who (l : Launch) (n L : Nat) (S : Nat → Nat → Nat) (nk nt rm : Nat → Int32) (h : xH) (hH : ML n L S nk nt rm h) (x : Int32) : Ev l zX5_who [.inr (40, 0), vI x] h (fun r h' => r = some (vI (qWho n L S x)) ∧ ML n L S nk nt rm h') := by
  obtain ⟨th, ln, lg, sa, wh, up, lo, rfl, hB⟩ := hH
  obtain ⟨b1, b2, b3, b4, b5, b6, b7⟩ := id hB
  refine ev_run okX5_who (by decide +kernel) (Nat.le_of_ble_eq_true rfl) 60 ?_
  refine ⟨[40], _, m_isOne l n b2 0 nk nt rm ln lg b5 x, fun r hc' hP _ => ?_⟩
  obtain ⟨rfl, rfl⟩ := hP
  refine And.intro (fun q => ?_) (fun q => ?_)
  · have q := b2i1 q
    refine ⟨[40, 53, 54, 55, 56], _, m_cuts l n L S 0 nk nt rm ln lg sa wh up lo hB, fun r hc' hP _ => ?_⟩
    obtain ⟨rfl, lg', wh', up', lo', hQ, rfl⟩ := hP
    unfold qWho
    rw [if_pos q]
    obtain ⟨k, hk, rfl, hkt⟩ := is1_of q
    refine And.intro (vp_in_nI (by omega) (by omega)) (And.intro ⟨?_, 0, ln, lg', sa, wh', up', lo', rfl, hB⟩ rfl)
    show some (vI (wh' (nI k).toNatClampNeg)) = _
    rw [nI_clamp (by omega), (hQ k hk).1, hkt]
    rfl
  · refine And.intro ⟨?_, 0, ln, lg, sa, wh, up, lo, rfl, hB⟩ rfl
    unfold qWho
    rw [b2i0 q]
    rfl
theorem qRd_no {a U : Nat} {w : Int32} (h : w.toInt < 0 ∨ 1 < w.toInt) : qRd a U w = -1 := by
  unfold qRd
  rw [if_neg (by omega), if_neg (by omega)]
theorem m_place (l : Launch) (n L : Nat) (S : Nat → Nat → Nat) (nk nt rm : Nat → Int32) (h : xH) (hH : ML n L S nk nt rm h) (x w : Int32) : Ev l zX5_place [.inr (40, 0), vI x, vI w] h (fun r h' => r = some (vL (qPlace n L S x w)) ∧ ML n L S nk nt rm h') := by
  obtain ⟨th, ln, lg, sa, wh, up, lo, rfl, hB⟩ := hH
  obtain ⟨b1, b2, b3, b4, b5, b6, b7⟩ := id hB
  have hend : ML n L S nk nt rm (mlH 0 nk nt rm ln lg sa wh up lo) := ⟨0, ln, lg, sa, wh, up, lo, rfl, hB⟩
  have no : (w.toInt < 0 ∨ 1 < w.toInt) → qPlace n L S x w = -1 := fun q => by
    unfold qPlace
    rw [qRd_no q]
    split <;> rfl
  refine ev_run okX5_place (by decide +kernel) (Nat.le_of_ble_eq_true rfl) 60 ?_
  refine ⟨[40], _, m_isOne l n b2 0 nk nt rm ln lg b5 x, fun r hc' hP _ => ?_⟩
  obtain ⟨rfl, rfl⟩ := hP
  refine And.intro (fun q => ?_) (fun q => And.intro (fun w1 => ?_) (fun w1 => And.intro (fun w2 => ?_) (fun w2 => ?_)))
  · refine And.intro ⟨?_, hend⟩ rfl
    unfold qPlace
    rw [b2i0 q]
    rfl
  · have w1 : w.toInt < 0 := lt_T.mp w1
    exact And.intro ⟨by rw [no (Or.inl w1)], hend⟩ rfl
  · have w1 : ¬ w.toInt < 0 := fun z => w1 (lt_T.mpr z)
    have w2 : w.toInt ≤ 1 := le_T.mp w2
    have q := b2i1 q
    refine ⟨[40, 53, 54, 55, 56], _, m_cuts l n L S 0 nk nt rm ln lg sa wh up lo hB, fun r hc' hP _ => ?_⟩
    obtain ⟨rfl, lg', wh', up', lo', hQ, rfl⟩ := hP
    have hend' : ML n L S nk nt rm (mlH 0 nk nt rm ln lg' sa wh' up' lo') := ⟨0, ln, lg', sa, wh', up', lo', rfl, hB⟩
    unfold qPlace
    rw [if_pos q]
    obtain ⟨k, hk, rfl, hkt⟩ := is1_of q
    have ck : (nI k).toNatClampNeg = k := nI_clamp (by omega)
    refine And.intro (fun z => ?_) (fun z => ?_)
    · have z0 : ¬ w.toInt = 0 := fun e => z (Int32.toInt_inj.mp e)
      refine And.intro (vp_in_nI (by omega) (by omega)) (And.intro ⟨?_, hend'⟩ rfl)
      show some (vL (lo' (nI k).toNatClampNeg)) = _
      unfold qRd
      rw [if_neg z0, if_pos (by omega), ck, (hQ k hk).2.2, hkt]
      rfl
    · have z0 : w.toInt = 0 := by rw [z]; rfl
      refine And.intro (vp_in_nI (by omega) (by omega)) (And.intro ⟨?_, hend'⟩ rfl)
      show some (vL (up' (nI k).toNatClampNeg)) = _
      unfold qRd
      rw [if_pos z0, ck, (hQ k hk).2.1, hkt]
      rfl
  · have w2 : ¬ w.toInt ≤ 1 := fun z => w2 (le_T.mpr z)
    exact And.intro ⟨by rw [no (Or.inr (by omega))], hend⟩ rfl
abbrev mqH (th : Int32) (nk nt rm : Nat → Int32) (ln : Int32) (lg : Nat → Int64) (sa : Nat → Int32) (up lo : Nat → Int64) : xH := [mdO th nk nt rm ln lg, iA 53 150 sa, lA 55 5 up, lA 56 5 lo]
/-- a difference of two fractions -/
theorem rd_diff {a c U : Nat} (hU : 0 < U) (h : c ≤ a) : rdN c U * rdD a U ≤ rdN a U * rdD c U ∧ rdN (rdN a U * rdD c U - rdN c U * rdD a U) (rdD a U * rdD c U) = rdN (a - c) U ∧ rdD (rdN a U * rdD c U - rdN c U * rdD a U) (rdD a U * rdD c U) = rdD (a - c) U := by
  obtain ⟨g, hg, e1, e2, d1⟩ := rd_of (a := a) hU
  obtain ⟨g', hg', e3, e4, d2⟩ := rd_of (a := c) hU
  generalize rdN a U = N at *
  generalize rdD a U = D at *
  generalize rdN c U = N' at *
  generalize rdD c U = D' at *
  have hgg : 0 < g * g' := Nat.mul_pos hg hg'
  have h1 : N * D' * (g * g') = a * U := by
    have : a * U = (N * g) * (D' * g') := by rw [← e1, ← e4]
    rw [this]
    grind
  have h2 : N' * D * (g * g') = c * U := by
    have : c * U = (N' * g') * (D * g) := by rw [← e3, ← e2]
    rw [this]
    grind
  have h3 : D * D' * (g * g') = U * U := by
    have : U * U = (D * g) * (D' * g') := by rw [← e2, ← e4]
    rw [this]
    grind
  have hle : N' * D ≤ N * D' := by
    apply Nat.le_of_mul_le_mul_right _ hgg
    rw [h1, h2]
    exact Nat.mul_le_mul_right U h
  obtain ⟨r1, r2⟩ := rd_mul (N * D' - N' * D) (D * D') (g * g') hgg
  obtain ⟨r3, r4⟩ := rd_mul (a - c) U U hU
  have h4 : (N * D' - N' * D) * (g * g') = (a - c) * U := by
    rw [Nat.sub_mul, Nat.sub_mul, h1, h2]
  refine ⟨hle, ?_, ?_⟩
  · rw [← r1, ← r3, h4, h3]
  · rw [← r2, ← r4, h4, h3]
theorem m_worthOf (l : Launch) (n L : Nat) (S : Nat → Nat → Nat) (th : Int32) (nk nt rm : Nat → Int32) (ln : Int32) (lg : Nat → Int64) (sa : Nat → Int32) (up lo : Nat → Int64) (hB : MLB n L S rm ln sa) (hQ : ∀ k, k < n → up k = kL (rdN (eE n L S (k + 1)) (uE n L S)) ∧ lo k = kL (rdD (eE n L S (k + 1)) (uE n L S))) (p k : Nat) (hp : p < n) (hk : k < n) (x y : Int32) (hx : x = nI p) (hy : y = nI k) : Ev l zX5_worthOf [.inr (40, 0), vI x, vI y] (mqH th nk nt rm ln lg sa up lo) (fun r h' => r = none ∧ ∃ lg' : Nat → Int64, lg' 0 = kL (rdN (pcs n L S p k) (uE n L S)) ∧ lg' 1 = kL (rdD (pcs n L S p k) (uE n L S)) ∧ h' = mqH th nk nt rm ln lg' sa up lo) := by
  subst hx; subst hy
  obtain ⟨b1, b2, b3, b4, b5, b6, b7⟩ := id hB
  have hS : ∀ p j, p < n → j < L → S p j ≤ 30 := fun p j hp hj => (b7 p j hp hj).1
  obtain ⟨u1, u2⟩ := uE_rng b1 b2 b3 hS
  obtain ⟨o1, o2, o3⟩ := eE_ok b1 b2 b3 hS
  have ck : (nI k).toNatClampNeg = k := nI_clamp (by omega)
  -- worthTo at an end
  have wt : ∀ (lg : Nat → Int64) (j : Nat), j < n → ∀ (y z : Int64), y = up j → z = lo j → Ev l zX5_worthTo [.inr (40, 0), vI (nI p), vL y, vL z] (mwH th nk nt rm ln lg sa) (fun r h' => r = none ∧ ∃ lg' : Nat → Int64, lg' 0 = kL (rdN (pa L S p (eE n L S (j + 1)) (uE n L S)) (uE n L S)) ∧ lg' 1 = kL (rdD (pa L S p (eE n L S (j + 1)) (uE n L S)) (uE n L S)) ∧ h' = mwH th nk nt rm ln lg' sa) := by
    intro lg j hj y z hy hz
    obtain ⟨g, hg, ea, eb, d1⟩ := rd_of (a := eE n L S (j + 1)) (show 0 < uE n L S by omega)
    have hle := rd_le (a := eE n L S (j + 1)) (show 0 < uE n L S by omega)
    have hLe := o3 (j + 1) (by omega)
    rw [(hQ j hj).1] at hy
    rw [(hQ j hj).2] at hz
    generalize rdN (eE n L S (j + 1)) (uE n L S) = a at *
    generalize rdD (eE n L S (j + 1)) (uE n L S) = b at *
    have haL : a ≤ L * b := by
      apply Nat.le_of_mul_le_mul_right _ hg
      rw [ea, eb] at hLe
      have : L * (b * g) = L * b * g := by grind
      omega
    have hrr := rd_mul (pa L S p a b) b g hg
    rw [← pa_mul, ← ea, ← eb] at hrr
    rw [hrr.1, hrr.2]
    exact m_worthTo l n L S b2 b4 th nk nt rm ln lg sa b7 p hp a b d1 (by omega) haL _ _ _ rfl hy hz
  refine ev_run okX5_worthOf (by decide +kernel) (Nat.le_of_ble_eq_true rfl) 60 ?_
  refine And.intro (vp_in_nI (by omega) (by omega)) (And.intro (vp_in_nI (by omega) (by omega)) ?_)
  refine ⟨[40, 53], _, wt lg k hk _ _ (by show up (nI k).toNatClampNeg = _; rw [ck]) (by show lo (nI k).toNatClampNeg = _; rw [ck]), fun r hc' hP _ => ?_⟩
  obtain ⟨rfl, lg1, l0, l1, rfl⟩ := hP
  refine And.intro (fun z => ?_) (fun z => ?_)
  · have z : ¬ k = 0 := fun e => z (by rw [e]; rfl)
    have hk1 : nI k - 1 = nI (k - 1) := pk_sub (b := 1) (by omega)
    have ck1 : (nI k - 1).toNatClampNeg = k - 1 := by rw [hk1]; exact nI_clamp (by omega)
    have vk1 : vp_in (nI k - 1) 5 := by rw [hk1]; exact vp_in_nI (by omega) (by omega)
    refine And.intro vk1 (And.intro vk1 ?_)
    refine ⟨[40, 53], _, wt lg1 (k - 1) (by omega) _ _ (by show up (nI k - 1).toNatClampNeg = _; rw [ck1]) (by show lo (nI k - 1).toNatClampNeg = _; rw [ck1]), fun r hc' hP _ => ?_⟩
    obtain ⟨rfl, lg2, l2, l3, rfl⟩ := hP
    rw [show k - 1 + 1 = k by omega] at l2 l3
    have hmono := pa_mono (L := L) (S := S) (p := p) (U := uE n L S) (o2 k hk)
    obtain ⟨r1, r2, r3⟩ := rd_diff (show 0 < uE n L S by omega) hmono
    have v1 := rd_le (a := pa L S p (eE n L S (k + 1)) (uE n L S)) (show 0 < uE n L S by omega)
    have v2 := rd_le (a := pa L S p (eE n L S k) (uE n L S)) (show 0 < uE n L S by omega)
    have hp1 : pa L S p (eE n L S (k + 1)) (uE n L S) ≤ 900 * uE n L S := Nat.le_trans (pa_le _ _ _ _ _) (Nat.mul_le_mul_right _ (MLS_le b7 b4 hp (Nat.le_refl L)))
    obtain ⟨g1, hg1, -, -, d1⟩ := rd_of (a := pa L S p (eE n L S (k + 1)) (uE n L S)) (show 0 < uE n L S by omega)
    obtain ⟨g2, hg2, -, -, d2⟩ := rd_of (a := pa L S p (eE n L S k) (uE n L S)) (show 0 < uE n L S by omega)
    have m1 : rdN (pa L S p (eE n L S (k + 1)) (uE n L S)) (uE n L S) * rdD (pa L S p (eE n L S k) (uE n L S)) (uE n L S) ≤ 3645000000 * 4050000 := Nat.mul_le_mul (by omega) (by omega)
    have m2 : rdD (pa L S p (eE n L S (k + 1)) (uE n L S)) (uE n L S) * rdD (pa L S p (eE n L S k) (uE n L S)) (uE n L S) ≤ 4050000 * 4050000 := Nat.mul_le_mul (by omega) (by omega)
    have m3 : 1 * 1 ≤ rdD (pa L S p (eE n L S (k + 1)) (uE n L S)) (uE n L S) * rdD (pa L S p (eE n L S k) (uE n L S)) (uE n L S) := Nat.mul_le_mul d1 d2
    refine ⟨[40], _, m_fraction l (rdN (pa L S p (eE n L S (k + 1)) (uE n L S)) (uE n L S) * rdD (pa L S p (eE n L S k) (uE n L S)) (uE n L S) - rdN (pa L S p (eE n L S k) (uE n L S)) (uE n L S) * rdD (pa L S p (eE n L S (k + 1)) (uE n L S)) (uE n L S)) (rdD (pa L S p (eE n L S (k + 1)) (uE n L S)) (uE n L S) * rdD (pa L S p (eE n L S k) (uE n L S)) (uE n L S)) (by omega) (by omega) (by omega) th nk nt rm ln lg2 _ _ ?_ ?_, fun r hc' hP _ => ?_⟩
    · show lg1 0 * lg2 1 - lg2 0 * lg1 1 = _
      rw [l0, l1, l2, l3, kL_mul, kL_mul, kL_sub r1]
    · show lg1 1 * lg2 1 = _
      rw [l1, l3, kL_mul]
    · obtain ⟨rfl, lg', g1, g2, rfl⟩ := hP
      refine And.intro ⟨rfl, lg', ?_, ?_, rfl⟩ rfl
      · rw [g1, r2]
        rfl
      · rw [g2, r3]
        rfl
  · have z : k = 0 := (nI_eq (a := k) (b := 0) (by omega) (by omega)).mp z
    subst z
    have hpc : pcs n L S p 0 = pa L S p (eE n L S (0 + 1)) (uE n L S) := by
      unfold pcs
      rw [o1, pa_0]
      rfl
    refine And.intro ⟨rfl, lg1, ?_, ?_, rfl⟩ rfl
    · rw [hpc]; exact l0
    · rw [hpc]; exact l1
theorem m_worth (l : Launch) (n L : Nat) (S : Nat → Nat → Nat) (nk nt rm : Nat → Int32) (h : xH) (hH : ML n L S nk nt rm h) (x y w : Int32) : Ev l zX5_worth [.inr (40, 0), vI x, vI y, vI w] h (fun r h' => r = some (vL (qWorth n L S x y w)) ∧ ML n L S nk nt rm h') := by
  obtain ⟨th, ln, lg, sa, wh, up, lo, rfl, hB⟩ := hH
  obtain ⟨b1, b2, b3, b4, b5, b6, b7⟩ := id hB
  have hend : ML n L S nk nt rm (mlH 0 nk nt rm ln lg sa wh up lo) := ⟨0, ln, lg, sa, wh, up, lo, rfl, hB⟩
  have no : (is1 n x && is1 n y) = false → qWorth n L S x y w = -1 := fun q => by
    unfold qWorth
    rw [q]
    rfl
  have no2 : (w.toInt < 0 ∨ 1 < w.toInt) → qWorth n L S x y w = -1 := fun q => by
    unfold qWorth
    rw [qRd_no q]
    split <;> rfl
  refine ev_run okX5_worth (by decide +kernel) (Nat.le_of_ble_eq_true rfl) 60 ?_
  refine ⟨[40], _, m_isOne l n b2 0 nk nt rm ln lg b5 x, fun r hc' hP _ => ?_⟩
  obtain ⟨rfl, rfl⟩ := hP
  refine And.intro (fun q => ?_) (fun q => ?_)
  · exact And.intro ⟨by rw [no (by rw [b2i0 q]; rfl)], hend⟩ rfl
  refine ⟨[40], _, m_isOne l n b2 0 nk nt rm ln lg b5 y, fun r hc' hP _ => ?_⟩
  obtain ⟨rfl, rfl⟩ := hP
  refine And.intro (fun q1 => ?_) (fun q1 => And.intro (fun w1 => ?_) (fun w1 => And.intro (fun w2 => ?_) (fun w2 => ?_)))
  · exact And.intro ⟨by rw [no (by rw [b2i0 q1, Bool.and_false])], hend⟩ rfl
  · have w1 : w.toInt < 0 := lt_T.mp w1
    exact And.intro ⟨by rw [no2 (Or.inl w1)], hend⟩ rfl
  · have w1 : ¬ w.toInt < 0 := fun z => w1 (lt_T.mpr z)
    have w2 : w.toInt ≤ 1 := le_T.mp w2
    have q := b2i1 q
    have q1 := b2i1 q1
    have e : (is1 n x && is1 n y) = true := by rw [q, q1]; rfl
    refine ⟨[40, 53, 54, 55, 56], _, m_cuts l n L S 0 nk nt rm ln lg sa wh up lo hB, fun r hc' hP _ => ?_⟩
    obtain ⟨rfl, lg', wh', up', lo', hQ, rfl⟩ := hP
    unfold qWorth
    rw [if_pos e]
    obtain ⟨a, ha, rfl, hat⟩ := is1_of q
    obtain ⟨b, hb, rfl, hbt⟩ := is1_of q1
    refine ⟨[40, 53, 55, 56], _, m_worthOf l n L S 0 nk nt rm ln lg' sa up' lo' hB (fun k hk => (hQ k hk).2) a b ha hb _ _ rfl rfl, fun r hc' hP _ => ?_⟩
    obtain ⟨rfl, lg2, l0, l1, rfl⟩ := hP
    have hend' : ML n L S nk nt rm (mlH 0 nk nt rm ln lg2 sa wh' up' lo') := ⟨0, ln, lg2, sa, wh', up', lo', rfl, hB⟩
    refine And.intro (fun z => ?_) (fun z => ?_)
    · have z0 : ¬ w.toInt = 0 := fun e => z (Int32.toInt_inj.mp e)
      refine And.intro ⟨?_, hend'⟩ rfl
      show some (vL (lg2 1)) = _
      unfold qRd
      rw [if_neg z0, if_pos (by omega), l1, hat, hbt]
      rfl
    · have z0 : w.toInt = 0 := by rw [z]; rfl
      refine And.intro ⟨?_, hend'⟩ rfl
      show some (vL (lg2 0)) = _
      unfold qRd
      rw [if_pos z0, l0, hat, hbt]
      rfl
  · have w2 : ¬ w.toInt ≤ 1 := fun z => w2 (le_T.mpr z)
    exact And.intro ⟨by rw [no2 (Or.inr (by omega))], hend⟩ rfl
theorem m_envies (l : Launch) (n L : Nat) (S : Nat → Nat → Nat) (nk nt rm : Nat → Int32) (h : xH) (hH : ML n L S nk nt rm h) (x : Int32) : Ev l zX5_envies [.inr (40, 0), vI x] h (fun r h' => r = some (vI (qEnvies n L S x)) ∧ ML n L S nk nt rm h') := by
  obtain ⟨th, ln, lg, sa, wh, up, lo, rfl, hB⟩ := hH
  obtain ⟨b1, b2, b3, b4, b5, b6, b7⟩ := id hB
  have hS : ∀ p j, p < n → j < L → S p j ≤ 30 := fun p j hp hj => (b7 p j hp hj).1
  refine ev_all okX5_envies (by decide +kernel) (Nat.le_of_ble_eq_true rfl) ?_
  intro K hK
  refine hK [(21, [0, 1, 2])] 80 0 _ _ _ ?_
  refine ⟨[40], _, m_isOne l n b2 0 nk nt rm ln lg b5 x, fun r hc' hP _ => ?_⟩
  obtain ⟨rfl, rfl⟩ := hP
  refine And.intro (fun q => ?_) (fun q => ?_)
  · have q := b2i1 q
    refine ⟨[40, 53, 54, 55, 56], _, m_cuts l n L S 0 nk nt rm ln lg sa wh up lo hB, fun r hc' hP _ => ?_⟩
    obtain ⟨rfl, lg', wh', up', lo', hQ, rfl⟩ := hP
    obtain ⟨p, hp, rfl, hpt⟩ := is1_of q
    have hqe : qEnvies n L S (nI p) = nI (qEnv n L S p) := by
      unfold qEnvies
      rw [if_pos q, hpt]
      rfl
    obtain ⟨u1, u2⟩ := uE_rng b1 b2 b3 hS
    obtain ⟨y1, y2, y3⟩ := myP_ok b1 b2 b3 hS hp
    have hh1 := (hE_ok b1 b2 b3 hS).1
    have pb : ∀ k, pcs n L S p k ≤ 3645000000 := fun k => by
      have h1 : pa L S p (eE n L S (k + 1)) (uE n L S) ≤ 900 * uE n L S := Nat.le_trans (pa_le _ _ _ _ _) (Nat.mul_le_mul_right _ (MLS_le b7 b4 hp (Nat.le_refl L)))
      unfold pcs
      omega
    have at60 : ∀ (e k : Nat), k + e = n → ∀ (lg : Nat → Int64) (C X : Int32), C = nI (sm (fun k => c1 (decide (pcs n L S p (myP n L S p) < pcs n L S p k))) k) → X = nI k → K 60 [(0, .inr (40, 0)), (1, vI (nI p)), (3, vL (kL (rdN (pcs n L S p (myP n L S p)) (uE n L S)))), (5, vL (kL (rdD (pcs n L S p (myP n L S p)) (uE n L S)))), (7, vI C), (8, vI X)] [] (mlH 0 nk nt rm ln lg sa wh' up' lo') := by
      intro e
      induction e with
      | zero =>
        intro k hk lg C X hC hX
        have hk : k = n := hk
        subst hk; subst hC; subst hX
        refine hK [] 80 60 _ _ _ ?_
        refine And.intro (fun _ => ?_) (fun z => absurd (by show rm 0 ≤ nI k; rw [b5]; exact Int32.le_refl _) z)
        exact And.intro ⟨by rw [hqe]; rfl, 0, ln, lg, sa, wh', up', lo', rfl, hB⟩ rfl
      | succ e ih =>
        intro k hk lg C X hC hX
        subst hC; subst hX
        have hkn : k < n := by omega
        refine hK [(60, [0, 1, 3, 5, 7, 8])] 80 60 _ _ _ ?_
        refine And.intro (fun z => absurd z (by show ¬ rm 0 ≤ nI k; rw [b5]; exact nI_ge (by omega) (by omega))) (fun _ => ?_)
        refine ⟨[40, 53, 55, 56], _, m_worthOf l n L S 0 nk nt rm ln lg sa up' lo' hB (fun k hk => (hQ k hk).2) p k hp hkn _ _ rfl rfl, fun r hc' hP _ => ?_⟩
        obtain ⟨rfl, lg2, l0, l1, rfl⟩ := hP
        have hu0 : 0 < uE n L S := by omega
        have r1 := rd_le (a := pcs n L S p k) hu0
        have r2 := rd_le (a := pcs n L S p (myP n L S p)) hu0
        have p1 := pb k
        have p2 := pb (myP n L S p)
        have m1 : rdN (pcs n L S p (myP n L S p)) (uE n L S) * rdD (pcs n L S p k) (uE n L S) ≤ 3645000000 * 4050000 := Nat.mul_le_mul (by omega) (by omega)
        have m2 : rdN (pcs n L S p k) (uE n L S) * rdD (pcs n L S p (myP n L S p)) (uE n L S) ≤ 3645000000 * 4050000 := Nat.mul_le_mul (by omega) (by omega)
        have hless : (rdN (pcs n L S p (myP n L S p)) (uE n L S) * rdD (pcs n L S p k) (uE n L S) < rdN (pcs n L S p k) (uE n L S) * rdD (pcs n L S p (myP n L S p)) (uE n L S)) ↔ pcs n L S p (myP n L S p) < pcs n L S p k := by
          rw [rd_less hu0 hu0]
          exact Nat.mul_lt_mul_right hu0
        refine ⟨[], _, m_isLess l _ _ _ _ (by omega) (by omega) _ _ _ _ rfl rfl l0 l1, fun r hc' hP _ => ?_⟩
        obtain ⟨rfl, rfl⟩ := hP
        refine And.intro (fun z => ?_) (fun z => ?_)
        · have z : ¬ pcs n L S p (myP n L S p) < pcs n L S p k := fun w => of_decide_eq_false (b2i0 z) (hless.mpr w)
          refine ih (k + 1) (by omega) lg2 _ _ ?_ (nI_1 k)
          show nI _ + 0 = nI (_ + c1 (decide (pcs n L S p (myP n L S p) < pcs n L S p k)))
          rw [decide_eq_false z, Int32.add_zero]
          rfl
        · have z := hless.mp (of_decide_eq_true (b2i1 z))
          refine ih (k + 1) (by omega) lg2 _ _ ?_ (nI_1 k)
          show nI _ + 1 = nI (_ + c1 (decide (pcs n L S p (myP n L S p) < pcs n L S p k)))
          rw [decide_eq_true z, nI_1]
          rfl
    have at21 : ∀ (e k : Nat), k + e = myP n L S p → ∀ X : Int32, X = nI k → K 21 [(0, .inr (40, 0)), (1, vI (nI p)), (2, vI X)] [] (mlH 0 nk nt rm ln lg' sa wh' up' lo') := by
      intro e
      induction e with
      | zero =>
        intro k hk X hX
        have hk : k = myP n L S p := hk
        subst hX
        have ck : (nI k).toNatClampNeg = k := nI_clamp (by omega)
        refine hK [(60, [0, 1, 3, 5, 7, 8])] 80 21 _ _ _ ?_
        refine And.intro (vp_in_nI (by omega) (by omega)) ?_
        refine And.intro (fun _ => ?_) (fun z => absurd (by show wh' (nI k).toNatClampNeg = nI p; rw [ck, (hQ k (by omega)).1, hk, y2]) z)
        refine ⟨[40, 53, 55, 56], _, m_worthOf l n L S 0 nk nt rm ln lg' sa up' lo' hB (fun k hk => (hQ k hk).2) p k hp (by omega) _ _ rfl rfl, fun r hc' hP _ => ?_⟩
        obtain ⟨rfl, lg2, l0, l1, rfl⟩ := hP
        have g := at60 n 0 (by omega) lg2 0 0 rfl rfl
        rw [← hk, ← l0, ← l1] at g
        exact g
      | succ e ih =>
        intro k hk X hX
        subst hX
        have ck : (nI k).toNatClampNeg = k := nI_clamp (by omega)
        refine hK [(21, [0, 1, 2])] 80 21 _ _ _ ?_
        refine And.intro (vp_in_nI (by omega) (by omega)) ?_
        refine And.intro (fun z => ?_) (fun _ => ih (k + 1) (by omega) _ (nI_1 k))
        exfalso
        have z : wh' (nI k).toNatClampNeg = nI p := z
        have h5 := hh1 k (by omega)
        rw [ck, (hQ k (by omega)).1, nI_eq (by omega) (by omega)] at z
        have := y3 k (by omega) z
        omega
    exact at21 (myP n L S p) 0 (by omega) 0 rfl
  · refine And.intro ⟨?_, 0, ln, lg, sa, wh, up, lo, rfl, hB⟩ rfl
    unfold qEnvies
    rw [b2i0 q]
    rfl
