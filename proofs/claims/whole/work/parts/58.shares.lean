/-! ===== the reference: shares ===== -/
abbrev msH (th : Int32) (nk nt rm : Nat → Int32) (ln : Int32) (lg : Nat → Int64) (wa ha tr : Nat → Int32) : xH := [mdO th nk nt rm ln lg, iA 47 25 wa, iA 49 5 ha, iA 50 5 tr]
theorem shl1 : ∀ d : Nat, d < 6 → (1 : Int32) <<< (nI d &&& 31) = nI (2 ^ d) ∧ (1 : Int32) <<< (nI d &&& 31) - 1 = nI (2 ^ d - 1) := by decide +kernel
theorem uM_lt {n x : Nat} (hn1 : 1 ≤ n) (hn : n ≤ 5) : ∀ j : Nat, uM n x j < 2 ^ 5
  | 0 => by show 0 < 32; omega
  | j + 1 => by
    have h1 := uM_lt (x := x) hn1 hn j
    have h2 := dg_lt hn1 x (n - 1 - j)
    exact Nat.or_lt_two_pow h1 (Nat.pow_lt_pow_right (by omega) (by omega))
def sR (W : Nat → Nat → Nat) (n x j : Nat) : Nat := sm (fun i => W (n - 1 - i) (dg n x (n - 1 - i))) j
theorem sR_all {W : Nat → Nat → Nat} {n x : Nat} (hn1 : 1 ≤ n) : sR W n x n = sW W n x := by
  obtain ⟨m, rfl⟩ : ∃ m, n = m + 1 := ⟨n - 1, by omega⟩
  unfold sR sW
  exact (sm_rev (fun k => W k (dg (m + 1) x k)) m).symm
theorem pw_le : ∀ n : Nat, n < 6 → ∀ k : Nat, k < 6 → k ≤ n → n ^ k ≤ 3125 := by decide +kernel
theorem m_shares (l : Launch) (n : Nat) (hn1 : 1 ≤ n) (hn : n ≤ 5) (W : Nat → Nat → Nat) (th : Int32) (nk nt rm : Nat → Int32) (ln : Int32) (lg : Nat → Int64) (wa ha tr : Nat → Int32) (hr : rm 0 = nI n) (hw : MRW n W wa) : Ev l zX5_shares [.inr (40, 0)] (msH th nk nt rm ln lg wa ha tr) (fun r h' => r = none ∧ ∃ (ha' tr' : Nat → Int32), (∀ k, k < n → ha' k = nI (ow W n k)) ∧ h' = msH th nk nt (upd rm 2 (nI (sW W n (bX W n)))) ln lg wa ha' tr') := by
  have hW : ∀ i j, i < n → j < n → W i j ≤ 1000 := fun i j hi hj => (hw i j hi hj).1
  have hpn : n ^ n ≤ 3125 := pw_le n (by omega) n (by omega) (Nat.le_refl n)
  have hr0 : ∀ v : Int32, upd rm 2 v 0 = nI n := fun v => by rw [pk_un (by omega)]; exact hr
  refine ev_all okX5_shares (by decide +kernel) (Nat.le_of_ble_eq_true rfl) ?_
  intro K hK
  -- all sharings, one after the other
  have at32 : ∀ (f x : Nat), x + f = n ^ n → ∀ (gr : Int32) (ha tr : Nat → Int32), BS W n (bF W n ((List.range x).filter (isP n))) gr ha → ∀ X : Int32, X = nI x → K 32 [(0, .inr (40, 0)), (1, vI (nI (n ^ n))), (2, vI X)] [] (msH th nk nt (upd rm 2 gr) ln lg wa ha tr) := by
    intro f
    induction f with
    | zero =>
      intro x hx gr ha tr hb X hX
      have hx : x = n ^ n := hx
      subst hx; subst hX
      refine hK [] 80 32 _ _ _ ?_
      refine And.intro (fun _ => ?_) (fun z => absurd (Int32.le_refl _) z)
      have hb : BS W n (bF W n (PL n)) gr ha := hb
      rw [bX_eq hn1 hn] at hb
      obtain ⟨b1, b2⟩ := hb
      refine And.intro ⟨rfl, ha, tr, b2, ?_⟩ rfl
      rw [← b1]
    | succ f ih =>
      intro x hx gr ha tr hb X hX
      subst hX
      have hflt : (List.range (x + 1)).filter (isP n) = (List.range x).filter (isP n) ++ (if isP n x = true then [x] else []) := by
        rw [List.range_succ, List.filter_append]
        congr 1
        by_cases q : isP n x = true
        · rw [if_pos q, List.filter_cons_of_pos q]
          rfl
        · rw [if_neg q, List.filter_cons_of_neg q]
          rfl
      have hs5 := sW_le hn1 hn hW x
      have next : ∀ (gr : Int32) (ha tr : Nat → Int32), BS W n (bF W n ((List.range (x + 1)).filter (isP n))) gr ha → K 183 [(0, .inr (40, 0)), (1, vI (nI (n ^ n))), (2, vI (nI x))] [] (msH th nk nt (upd rm 2 gr) ln lg wa ha tr) := by
        intro gr ha tr hb
        refine hK [(32, [0, 1, 2])] 80 183 _ _ _ ?_
        exact ih (x + 1) (by omega) gr ha tr hb _ (nI_1 x)
      -- the copy of a better one
      have at154 : ∀ (tr : Nat → Int32), (∀ k, k < n → tr k = nI (dg n x k)) → bF W n ((List.range (x + 1)).filter (isP n)) = some x → ∀ (e k : Nat), k + e = n → ∀ (ha : Nat → Int32), (∀ j, j < k → ha j = nI (dg n x j)) → ∀ Y : Int32, Y = nI k → K 154 [(0, .inr (40, 0)), (1, vI (nI (n ^ n))), (2, vI (nI x)), (6, vI Y)] [] (msH th nk nt (upd rm 2 (nI (sW W n x))) ln lg wa ha tr) := by
        intro tr htr hbx e
        induction e with
        | zero =>
          intro k hk ha hha Y hY
          have hk : k = n := hk
          subst hk; subst hY
          refine hK [(183, [0, 1, 2])] 80 154 _ _ _ ?_
          refine And.intro (fun _ => ?_) (fun z => absurd (by show upd rm 2 (nI (sW W k x)) 0 ≤ nI k; rw [hr0]; exact Int32.le_refl _) z)
          refine next _ ha tr ?_
          rw [hbx]
          exact ⟨rfl, hha⟩
        | succ e ihe =>
          intro k hk ha hha Y hY
          subst hY
          have ck : (nI k).toNatClampNeg = k := nI_clamp (by omega)
          refine hK [(154, [0, 1, 2, 6])] 80 154 _ _ _ ?_
          refine And.intro (fun z => absurd z (by show ¬ upd rm 2 (nI (sW W n x)) 0 ≤ nI k; rw [hr0]; exact nI_ge (by omega) (by omega))) (fun _ => ?_)
          refine And.intro (vp_in_nI (by omega) (by omega)) (And.intro (vp_in_nI (by omega) (by omega)) ?_)
          refine ihe (k + 1) (by omega) _ (fun j hj => ?_) _ (nI_1 k)
          show upd ha (nI k).toNatClampNeg (tr (nI k).toNatClampNeg) j = _
          rw [ck]
          by_cases ej : j = k
          · rw [ej, pk_us]
            exact htr k (by omega)
          · rw [pk_un ej]
            exact hha j (by omega)
      -- the digits
      have at53 : ∀ (e j : Nat), j + e = n → ∀ (tr : Nat → Int32), (∀ i, i < j → tr (n - 1 - i) = nI (dg n x (n - 1 - i))) → ∀ R U S Y : Int32, R = nI (x / n ^ j) → U = nI (uM n x j) → S = nI (sR W n x j) → Y = nI (n - j) - 1 → K 53 [(0, .inr (40, 0)), (1, vI (nI (n ^ n))), (2, vI (nI x)), (3, vI R), (4, vI U), (5, vI S), (6, vI Y)] [] (msH th nk nt (upd rm 2 gr) ln lg wa ha tr) := by
        intro e
        induction e with
        | zero =>
          intro j hj tr htr R U S Y hR hU hS hY
          have hj : j = n := hj
          subst hj; subst hU; subst hS
          have hY : Y = -1 := by
            rw [hY, Nat.sub_self]
            decide
          subst hY
          have htr2 : ∀ k, k < j → tr k = nI (dg j x k) := fun k hk => by
            have := htr (j - 1 - k) (by omega)
            rw [show j - 1 - (j - 1 - k) = k by omega] at this
            exact this
          have hu := uM_lt (x := x) hn1 hn j
          have h2n : 2 ^ j ≤ 2 ^ 5 := Nat.pow_le_pow_right (by omega) hn
          have hEq : nI (uM j x j) = (1 : Int32) <<< (upd rm 2 gr 0 &&& 31) - 1 ↔ isP j x = true := by
            rw [hr0, (shl1 j (by omega)).2, nI_eq (by omega) (by omega)]
            unfold isP
            rw [beq_iff_eq]
          refine hK [(183, [0, 1, 2]), (154, [0, 1, 2, 6])] 80 53 _ _ _ ?_
          refine And.intro (fun _ => ?_) (fun z => absurd (show (-1 : Int32) < 0 by decide) z)
          refine And.intro (fun z => ?_) (fun z => ?_)
          · have z : ¬ isP j x = true := fun w => z (hEq.mpr w)
            refine next gr ha tr ?_
            rw [hflt, if_neg z, List.append_nil]
            exact hb
          · have z := hEq.mp z
            rw [if_pos z] at hflt
            have hbt := bF_app W j ((List.range x).filter (isP j)) x
            rw [← hflt] at hbt
            have hsr : sR W j x j = sW W j x := sR_all hn1
            have fin : bF W j ((List.range (x + 1)).filter (isP j)) = some x → K 154 [(0, .inr (40, 0)), (1, vI (nI (j ^ j))), (2, vI (nI x)), (6, vI 0)] [] (msH th nk nt (upd rm 2 (nI (sR W j x j))) ln lg wa ha tr) := fun w => by
              rw [hsr]
              exact at154 tr htr2 w j 0 (by omega) ha (fun q hq => absurd hq (Nat.not_lt_zero q)) 0 rfl
            cases ho : bF W j ((List.range x).filter (isP j)) with
            | none =>
              rw [ho] at hb hbt
              have hb : gr = -1 := hb
              refine And.intro (fun _ => fin hbt) (fun w => ?_)
              exfalso
              apply w
              show gr < nI (sR W j x j)
              rw [hb, lt_T, hsr, nI_toInt (by omega), show (-1 : Int32).toInt = -1 by decide]
              omega
            | some y =>
              rw [ho] at hb hbt
              obtain ⟨b1, b2⟩ := id hb
              have hsy := sW_le hn1 hn hW y
              have hbt : bF W j ((List.range (x + 1)).filter (isP j)) = if sW W j y < sW W j x then some x else some y := hbt
              refine And.intro (fun w => ?_) (fun w => ?_)
              · have w : gr < nI (sR W j x j) := w
                rw [b1, hsr, nI_ltI (by omega) (by omega)] at w
                rw [if_pos w] at hbt
                exact fin hbt
              · have w : ¬ gr < nI (sR W j x j) := w
                rw [b1, hsr, nI_ltI (by omega) (by omega)] at w
                rw [if_neg w] at hbt
                refine next gr ha tr ?_
                rw [hbt]
                exact hb
        | succ e ihe =>
          intro j hj tr htr R U S Y hR hU hS hY
          have hd := dg_lt hn1 x (n - 1 - j)
          have hdg : dg n x (n - 1 - j) = x / n ^ j % n := by
            unfold dg
            rw [show n - 1 - (n - 1 - j) = j by omega]
          have hxj : x / n ^ j ≤ x := Nat.div_le_self _ _
          have hY : Y = nI (n - 1 - j) := by
            rw [hY, show (1 : Int32) = nI 1 from rfl, pk_sub (by omega)]
            congr 1
            omega
          subst hR; subst hU; subst hS; subst hY
          have ck : (nI (n - 1 - j)).toNatClampNeg = n - 1 - j := nI_clamp (by omega)
          have hrem : nI (x / n ^ j) - nI (x / n ^ j) / upd rm 2 gr 0 * upd rm 2 gr 0 = nI (dg n x (n - 1 - j)) := by
            rw [hr0, pk_rem (by omega) (by omega) (by omega), hdg]
          have hne : ¬ upd rm 2 gr 0 = 0 := by
            rw [hr0]
            intro w
            have := (nI_eq (a := n) (b := 0) (by omega) (by omega)).mp w
            omega
          obtain ⟨i1, i2⟩ := idx5_v (a := n - 1 - j) (b := dg n x (n - 1 - j)) (by omega) (by omega)
          have hval : upd tr (nI (n - 1 - j)).toNatClampNeg (nI (x / n ^ j) - nI (x / n ^ j) / upd rm 2 gr 0 * upd rm 2 gr 0) (nI (n - 1 - j)).toNatClampNeg = nI (dg n x (n - 1 - j)) := by rw [pk_us, hrem]
          refine hK [(53, [0, 1, 2, 3, 4, 5, 6])] 80 53 _ _ _ ?_
          refine And.intro (fun z => absurd (show nI (n - 1 - j) < nI 0 from z) (nI_nlt (by omega) (by omega))) (fun _ => ?_)
          refine And.intro hne (And.intro (vp_in_nI (by omega) (by omega)) (And.intro hne (And.intro (vp_in_nI (by omega) (by omega)) (And.intro (vp_in_nI (by omega) (by omega)) (And.intro ?_ ?_)))))
          · show vp_in (5 * nI (n - 1 - j) + upd tr (nI (n - 1 - j)).toNatClampNeg (nI (x / n ^ j) - nI (x / n ^ j) / upd rm 2 gr 0 * upd rm 2 gr 0) (nI (n - 1 - j)).toNatClampNeg) 25
            rw [hval]
            exact i1
          · refine ihe (j + 1) (by omega) _ (fun i hi => ?_) _ _ _ _ ?_ ?_ ?_ ?_
            · show upd tr (nI (n - 1 - j)).toNatClampNeg (nI (x / n ^ j) - nI (x / n ^ j) / upd rm 2 gr 0 * upd rm 2 gr 0) (n - 1 - i) = _
              rw [ck, hrem]
              by_cases ei : i = j
              · rw [ei, pk_us]
              · rw [pk_un (by omega)]
                exact htr i (by omega)
            · show nI (x / n ^ j) / upd rm 2 gr 0 = _
              rw [hr0, pk_div (by omega) (by omega) (by omega), Nat.div_div_eq_div_mul, Nat.pow_succ]
            · show nI (uM n x j) ||| (1 : Int32) <<< (upd tr (nI (n - 1 - j)).toNatClampNeg (nI (x / n ^ j) - nI (x / n ^ j) / upd rm 2 gr 0 * upd rm 2 gr 0) (nI (n - 1 - j)).toNatClampNeg &&& 31) = _
              rw [hval, (shl1 _ (by omega)).1, nx_or]
              rfl
            · show nI (sR W n x j) + wa (5 * nI (n - 1 - j) + upd tr (nI (n - 1 - j)).toNatClampNeg (nI (x / n ^ j) - nI (x / n ^ j) / upd rm 2 gr 0 * upd rm 2 gr 0) (nI (n - 1 - j)).toNatClampNeg).toNatClampNeg = _
              rw [hval, i2, (hw (n - 1 - j) (dg n x (n - 1 - j)) (by omega) hd).2, nI_add]
              rfl
            · show nI (n - 1 - j) + (-1) = _
              rw [(tm_m (n - 1 - j) (by omega)).2]
              congr 2
              omega
      refine hK [(53, [0, 1, 2, 3, 4, 5, 6])] 80 32 _ _ _ ?_
      refine And.intro (fun z => absurd z (nI_ge (by omega) (by omega))) (fun _ => ?_)
      refine at53 n 0 (by omega) tr (fun i hi => absurd hi (Nat.not_lt_zero i)) _ _ _ _ (by rw [Nat.pow_zero, Nat.div_one]) rfl rfl ?_
      show upd rm 2 gr 0 - 1 = _
      rw [hr0]
      rfl
  have at9 : ∀ (e k : Nat), k + e = n → ∀ A X : Int32, A = nI (n ^ k) → X = nI k → K 9 [(0, .inr (40, 0)), (1, vI A), (2, vI X)] [] (msH th nk nt (upd rm 2 (-1)) ln lg wa ha tr) := by
    intro e
    induction e with
    | zero =>
      intro k hk A X hA hX
      have hk : k = n := hk
      subst hk; subst hX; subst hA
      refine hK [(32, [0, 1, 2])] 80 9 _ _ _ ?_
      refine And.intro (fun _ => ?_) (fun z => absurd (by show upd rm 2 (-1) 0 ≤ nI k; rw [hr0]; exact Int32.le_refl _) z)
      exact at32 (k ^ k) 0 (by omega) (-1) ha tr rfl 0 rfl
    | succ e ih =>
      intro k hk A X hA hX
      subst hX; subst hA
      refine hK [(9, [0, 1, 2])] 80 9 _ _ _ ?_
      refine And.intro (fun z => absurd z (by show ¬ upd rm 2 (-1) 0 ≤ nI k; rw [hr0]; exact nI_ge (by omega) (by omega))) (fun _ => ?_)
      refine ih (k + 1) (by omega) _ _ ?_ (nI_1 k)
      show nI (n ^ k) * upd rm 2 (-1) 0 = _
      rw [hr0, pk_mul, Nat.pow_succ]
  refine hK [(9, [0, 1, 2])] 80 0 _ _ _ ?_
  exact at9 n 0 (by omega) 1 0 (by rw [Nat.pow_zero]; rfl) rfl
