/-! ===== the reference: check ===== -/
theorem mx_if0 {f : Nat → Int} {m : Nat} (h : ∀ i, i ≤ m → -1000000 ≤ f i ∧ f i ≤ 1000000) : (if zL (f m) < zL (mxZ f (m - 1)) then zL (mxZ f (m - 1)) else zL (f m)) = zL (mxZ f m) := by
  cases m with
  | zero =>
    show (if zL (f 0) < zL (f 0) then zL (f 0) else zL (f 0)) = zL (f 0)
    split <;> rfl
  | succ m => exact mx_if h
theorem m_check (l : Launch) (n : Nat) (W : Nat → Nat → Nat) (rent : Nat) (mo : Nat → Int) (nk nt : Nat → Int32) (ln : Int32) (lg : Nat → Int64) (h : xH) (hH : MR n W rent mo nk nt ln lg h) : Ev l zX5_check [.inr (40, 0)] h (fun r h' => (∃ v : Int32, r = some (vI v) ∧ chkV n W rent mo v) ∧ MR n W rent mo nk nt ln lg h') := by
  obtain ⟨th, rm, wa, ta, ha, tr, be, pr, rfl, hB⟩ := hH
  obtain ⟨h1, h2, h3, h4, h5, h6, h7⟩ := id hB
  have hW : ∀ i j, i < n → j < n → W i j ≤ 1000 := fun i j hi hj => (h6 i j hi hj).1
  refine ev_all okX5_check (by decide +kernel) (Nat.le_of_ble_eq_true rfl) ?_
  intro K hK
  refine hK [(37, [0, 1, 3, 5, 7])] 100 0 _ _ _ ?_
  refine ⟨[40, 47, 49, 50, 51, 52], _, m_reckons l n h1 h2 W rent h3 0 nk nt rm ln lg wa ha tr be pr h4 h5 h6, fun r hc' hP _ => ?_⟩
  obtain ⟨rfl, rm', ha', tr', be', pr', g0, g1, g2, g3, rfl⟩ := hP
  have hM := MR_of (nk := nk) (nt := nt) (ln := ln) (lg := lg) (th := 0) (ha := ha') (tr := tr') (be := be') (pr := pr') hB g0 g1
  have c0 : (0 : Int32).toNatClampNeg = 0 := by decide
  have hpg : ∀ {r : Nat}, r < n → -1000000 ≤ prc W n rent r ∧ prc W n rent r ≤ 1000000 := fun {r} hr => by
    have := prc_rng h1 h2 hW h3 hr
    omega
  have hag0 : ∀ {r : Nat}, r < n → -125000 ≤ ask n W rent mo r ∧ ask n W rent mo r ≤ 135000 := fun {r} hr => ask_rng h1 h2 hW h3 hr ⟨(h7 r hr).1, (h7 r hr).2.1⟩
  have hag : ∀ {r : Nat}, r < n → -1000000 ≤ ask n W rent mo r ∧ ask n W rent mo r ≤ 1000000 := fun {r} hr => by
    have := hag0 hr
    omega
  have hask : ∀ {r : Nat}, r < n → pr' r + (ta r).toInt64 = zL (ask n W rent mo r) := fun {r} hr => by
    obtain ⟨m1, m2, m3⟩ := h7 r hr
    rw [g3 r hr, m3, zL_zI (by omega) (by omega), zL_add]
    rfl
  have hgr : ∀ {i j : Nat}, i < n → j < n → -400000 ≤ gn n W rent mo i (ow W n j) - gn n W rent mo i (ow W n i) ∧ gn n W rent mo i (ow W n j) - gn n W rent mo i (ow W n i) ≤ 400000 := fun {i j} hi hj => by
    have a1 := ow_lt (W := W) h1 i
    have a2 := ow_lt (W := W) h1 j
    have b1 := gn_rng h1 h2 hW h3 (mo := mo) hi a1 ⟨(h7 _ a1).1, (h7 _ a1).2.1⟩
    have b2 := gn_rng h1 h2 hW h3 (mo := mo) hi a2 ⟨(h7 _ a2).1, (h7 _ a2).2.1⟩
    omega
  -- behind the sum
  have at127 : smZ (ask n W rent mo) n = (n : Int) * (rent : Int) → ∀ (e i : Nat), i + e = n → (∀ i' r, i' < i → r < n → ¬ gn n W rent mo i' (ow W n i') < gn n W rent mo i' r) → ∀ I : Int32, I = nI i → K 127 [(0, .inr (40, 0)), (3, vL (zL (mxZ (prc W n rent) (n - 1)))), (5, vL (zL (mxZ (ask n W rent mo) (n - 1)))), (7, vI I)] [] (mrH 0 nk nt rm' ln lg wa ta ha' tr' be' pr') := by
    intro hs e
    induction e with
    | zero =>
      intro i hi hno I hI
      have hi : i = n := hi
      subst hi; subst hI
      have hnG : ¬ anyG i W rent mo := fun ⟨i', r, q1, q2, q3⟩ => hno i' r q1 q2 q3
      have r1 := mxZ_rng (f := prc W i rent) (m := i - 1) (fun q hq => hpg (by omega))
      have r2 := mxZ_rng (f := ask i W rent mo) (m := i - 1) (fun q hq => hag (by omega))
      refine hK [] 100 127 _ _ _ ?_
      refine And.intro (fun _ => ?_) (fun z => absurd (by show rm' 0 ≤ nI i; rw [g0]; exact Int32.le_refl _) z)
      refine And.intro (fun z => ?_) (fun z => ?_)
      · have z : zL (mxZ (ask i W rent mo) (i - 1)) ≤ zL (mxZ (prc W i rent) (i - 1)) := z
        rw [zL_le (by omega) (by omega) (by omega) (by omega)] at z
        have hnT : ¬ topT i W rent mo := by
          unfold topT
          omega
        exact And.intro ⟨⟨0, rfl, fun w => absurd hs w, fun _ w => absurd w hnG, fun _ _ w => absurd w hnT, fun _ _ _ => rfl⟩, hM⟩ rfl
      · have z : ¬ zL (mxZ (ask i W rent mo) (i - 1)) ≤ zL (mxZ (prc W i rent) (i - 1)) := z
        rw [zL_le (by omega) (by omega) (by omega) (by omega)] at z
        have hT : topT i W rent mo := by
          unfold topT
          omega
        exact And.intro ⟨⟨3, rfl, fun w => absurd hs w, fun _ w => absurd w hnG, fun _ _ _ => rfl, fun _ _ w => absurd hT w⟩, hM⟩ rfl
    | succ e ih =>
      intro i hi hno I hI
      subst hI
      have hin : i < n := by omega
      have at139 : ∀ (f j : Nat), j + f = n → (∀ j', j' < j → ¬ gn n W rent mo i (ow W n i) < gn n W rent mo i (ow W n j')) → ∀ J : Int32, J = nI j → K 139 [(0, .inr (40, 0)), (3, vL (zL (mxZ (prc W n rent) (n - 1)))), (5, vL (zL (mxZ (ask n W rent mo) (n - 1)))), (7, vI (nI i)), (8, vI J)] [] (mrH 0 nk nt rm' ln lg wa ta ha' tr' be' pr') := by
        intro f
        induction f with
        | zero =>
          intro j hj hno2 J hJ
          have hj : j = n := hj
          subst hj; subst hJ
          refine hK [(127, [0, 3, 5, 7])] 100 139 _ _ _ ?_
          refine And.intro (fun _ => ?_) (fun z => absurd (by show rm' 0 ≤ nI j; rw [g0]; exact Int32.le_refl _) z)
          refine ih (i + 1) (by omega) (fun i' r q1 q2 => ?_) _ (nI_1 i)
          by_cases ei : i' = i
          · obtain ⟨k, hk, ek⟩ := ow_sur (W := W) h1 h2 q2
            rw [ei, ← ek]
            exact hno2 k hk
          · exact hno i' r (by omega) q2
        | succ f ihf =>
          intro j hj hno2 J hJ
          subst hJ
          have hjn : j < n := by omega
          have rg := hgr hin hjn
          refine hK [(139, [0, 3, 5, 7, 8])] 100 139 _ _ _ ?_
          refine And.intro (fun z => absurd z (by show ¬ rm' 0 ≤ nI j; rw [g0]; exact nI_ge (by omega) (by omega))) (fun _ => ?_)
          refine ⟨[40, 47, 48, 49, 52], _, m_grudgeOf l n h1 h2 W rent mo 0 nk nt rm' ln lg wa ta ha' pr' g0 h6 h7 g2 g3 i j hin hjn _ _ rfl rfl, fun v hc' hP _ => ?_⟩
          obtain ⟨rfl, rfl⟩ := hP
          refine And.intro (fun z => ?_) (fun z => ?_)
          · have z : zL (gn n W rent mo i (ow W n j) - gn n W rent mo i (ow W n i)) ≤ zL 0 := z
            rw [zL_le (by omega) (by omega) (by omega) (by omega)] at z
            refine ihf (j + 1) (by omega) (fun j' hj' => ?_) _ (nI_1 j)
            by_cases ej : j' = j
            · rw [ej]; omega
            · exact hno2 j' (by omega)
          · have z : ¬ zL (gn n W rent mo i (ow W n j) - gn n W rent mo i (ow W n i)) ≤ zL 0 := z
            rw [zL_le (by omega) (by omega) (by omega) (by omega)] at z
            have hG : anyG n W rent mo := ⟨i, ow W n j, hin, ow_lt h1 j, by omega⟩
            exact And.intro ⟨⟨2, rfl, fun w => absurd hs w, fun _ _ => rfl, fun _ w => absurd hG w, fun _ w => absurd hG w⟩, hM⟩ rfl
      refine hK [(139, [0, 3, 5, 7, 8])] 100 127 _ _ _ ?_
      refine And.intro (fun z => absurd z (by show ¬ rm' 0 ≤ nI i; rw [g0]; exact nI_ge (by omega) (by omega))) (fun _ => ?_)
      exact at139 n 0 (by omega) (fun j' hj' => absurd hj' (Nat.not_lt_zero j')) 0 rfl
  have at37 : ∀ (e k : Nat), k + e = n → ∀ (S A B : Int64) (X : Int32), S = zL (smZ (ask n W rent mo) k) → A = zL (mxZ (prc W n rent) (k - 1)) → B = zL (mxZ (ask n W rent mo) (k - 1)) → X = nI k → K 37 [(0, .inr (40, 0)), (1, vL S), (3, vL A), (5, vL B), (7, vI X)] [] (mrH 0 nk nt rm' ln lg wa ta ha' tr' be' pr') := by
    intro e
    induction e with
    | zero =>
      intro k hk S A B X hS hA hB2 hX
      have hk : k = n := hk
      subst hk; subst hS; subst hA; subst hB2; subst hX
      have r1 := smZ_rng (f := ask k W rent mo) (n := k) (a := -125000) (b := 135000) (fun i hi => hag0 hi)
      have r2 := nmul_rng (z := (rent : Int)) h2 (a := 0) (b := 10000) (by omega) (by omega) (by omega) (by omega)
      have hEq : zL (smZ (ask k W rent mo) k) = (rm' 0).toInt64 * (rm' 1).toInt64 ↔ smZ (ask k W rent mo) k = (k : Int) * (rent : Int) := by
        rw [g0, g1, zL_nI (by omega), zL_nI (by omega), zL_mul]
        exact zL_eq (by omega) (by omega) (by omega) (by omega)
      refine hK [(127, [0, 3, 5, 7])] 100 37 _ _ _ ?_
      refine And.intro (fun _ => ?_) (fun z => absurd (by show rm' 0 ≤ nI k; rw [g0]; exact Int32.le_refl _) z)
      refine And.intro (fun z => ?_) (fun z => ?_)
      · exact at127 (hEq.mp z) k 0 (by omega) (fun i' r q => absurd q (Nat.not_lt_zero i')) 0 rfl
      · have z : ¬ smZ (ask k W rent mo) k = (k : Int) * (rent : Int) := fun w => z (hEq.mpr w)
        exact And.intro ⟨⟨1, rfl, fun _ => rfl, fun w => absurd w z, fun w => absurd w z, fun w => absurd w z⟩, hM⟩ rfl
    | succ e ih =>
      intro k hk S A B X hS hA hB2 hX
      subst hS; subst hA; subst hB2; subst hX
      have hkn : k < n := by omega
      have ck : (nI k).toNatClampNeg = k := nI_clamp (by omega)
      refine hK [(37, [0, 1, 3, 5, 7])] 100 37 _ _ _ ?_
      refine And.intro (fun z => absurd z (by show ¬ rm' 0 ≤ nI k; rw [g0]; exact nI_ge (by omega) (by omega))) (fun _ => ?_)
      refine And.intro (vp_in_nI (by omega) (by omega)) (And.intro (vp_in_nI (by omega) (by omega)) (And.intro (vp_in_nI (by omega) (by omega)) (And.intro (vp_in_nI (by omega) (by omega)) (And.intro (vp_in_nI (by omega) (by omega)) ?_))))
      refine ih (k + 1) (by omega) _ _ _ _ ?_ ?_ ?_ (nI_1 k)
      · show zL (smZ (ask n W rent mo) k) + (pr' (nI k).toNatClampNeg + (ta (nI k).toNatClampNeg).toInt64) = _
        rw [ck, hask hkn, zL_add]
        rfl
      · show (if pr' (nI k).toNatClampNeg < zL (mxZ (prc W n rent) (k - 1)) then zL (mxZ (prc W n rent) (k - 1)) else pr' (nI k).toNatClampNeg) = _
        rw [ck, g3 k hkn]
        exact mx_if0 (fun i hi => hpg (by omega))
      · show (if pr' (nI k).toNatClampNeg + (ta (nI k).toNatClampNeg).toInt64 < zL (mxZ (ask n W rent mo) (k - 1)) then zL (mxZ (ask n W rent mo) (k - 1)) else pr' (nI k).toNatClampNeg + (ta (nI k).toNatClampNeg).toInt64) = _
        rw [ck, hask hkn]
        exact mx_if0 (fun i hi => hag (by omega))
  refine And.intro (show vp_in (nI 0) 5 from vp_in_nI (by omega) (by omega)) (And.intro (show vp_in (nI 0) 5 from vp_in_nI (by omega) (by omega)) (And.intro (show vp_in (nI 0) 5 from vp_in_nI (by omega) (by omega)) ?_))
  refine at37 n 0 (by omega) _ _ _ _ rfl ?_ ?_ rfl
  · show pr' (0 : Int32).toNatClampNeg = _
    rw [c0, g3 0 (by omega)]
    rfl
  · show pr' (0 : Int32).toNatClampNeg + (ta (0 : Int32).toNatClampNeg).toInt64 = _
    rw [c0, hask (by omega)]
    rfl
