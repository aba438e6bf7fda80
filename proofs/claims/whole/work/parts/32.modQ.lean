/-! ===== the reference: halves, rows ===== -/
theorem and1_iff (x : Int32) : (x &&& 1 = 1) ↔ uN x % 2 = 1 := by
  have h : x &&& 1 = nI (uN x % 2) := by
    have := pk_and x (m := 1) 1 rfl
    exact this
  rw [h, show (1 : Int32) = nI 1 from rfl, nI_eq (by omega) (by omega)]
theorem m_halves (l : Launch) (bs : Nat → Nat) (n : Nat) (nt rm : Nat → Int32) (ln : Int32) (lg : Nat → Int64) (h : xH) (hN : MN bs n nt rm ln lg h) (x : Int32) : Ev l zX5_halves [.inr (40, 0), vI x] h (fun r h' => r = some (vI (qHalves bs n x)) ∧ MN bs n nt rm ln lg h') := by
  obtain ⟨th, nk, be, fi, se, ro, pl, rfl, hB⟩ := hN
  obtain ⟨hn, hs, hb, hbe⟩ := id hB
  have hend : MN bs n nt rm ln lg (mnH 0 nk nt rm ln lg be fi se ro pl) := ⟨0, nk, be, fi, se, ro, pl, rfl, hB⟩
  refine ev_run okX5_halves (by decide +kernel) (Nat.le_of_ble_eq_true rfl) 100 ?_
  refine And.intro (fun h1 => ?_) (fun h1 => And.intro (fun h2 => ?_) (fun h2 => And.intro (fun h3 => ?_) (fun h3 => ?_)))
  · have h1 : nk 0 < nI 2 := h1
    rw [hb, nI_ltI (by omega) (by omega)] at h1
    refine And.intro ⟨?_, hend⟩ rfl
    unfold qHalves
    rw [if_neg (by omega)]
  · have h2 := (and1_iff x).mp h2
    refine And.intro ⟨?_, hend⟩ rfl
    unfold qHalves
    rw [if_neg]
    rintro ⟨-, q⟩
    have := of_decide_eq_true q
    omega
  · have h1 : ¬ nk 0 < nI 2 := h1
    rw [hb, nI_ltI (by omega) (by omega)] at h1
    have h2 : ¬ uN x % 2 = 1 := fun q => h2 ((and1_iff x).mpr q)
    have hu : x_ib 8 x (nk 0) = nI (uN x / 2 ^ n) := by
      have e := pk_ushrN (uN_lt x) (nI n) n (ush_n n (by omega))
      rw [nI_uN] at e
      rw [hb]
      exact e
    have h3 : nI (uN x / 2 ^ n) = nI 0 := hu.symm.trans h3
    rw [nI_inj32 (Nat.lt_of_le_of_lt (Nat.div_le_self _ _) (uN_lt x)) (by omega)] at h3
    have hlt : uN x < 2 ^ n := by
      rcases Nat.div_eq_zero_iff.mp h3 with q | q
      · exact absurd q (Nat.ne_of_gt (Nat.two_pow_pos n))
      · exact q
    have hlt31 : uN x < 2 ^ 31 := Nat.lt_of_lt_of_le hlt (Nat.pow_le_pow_right (by omega) (by omega))
    refine ⟨[40, 41, 42, 43, 44, 45], _, m_isHalved l bs n nt rm ln lg 0 nk be fi se ro pl hB (uN x) hlt31 _ (nI_uN x).symm, fun r hc' hP _ => ?_⟩
    obtain ⟨rfl, fi', se', rfl⟩ := hP
    have hend' : MN bs n nt rm ln lg (mnH 0 nk nt rm ln lg be fi' se' ro pl) := ⟨0, nk, be, fi', se', ro, pl, rfl, hB⟩
    have hq : qHalves bs n x = b2i (nHal bs n (cbit (uN x))) := by
      unfold qHalves
      rw [if_pos ⟨by omega, decide_eq_true ⟨by omega, hlt⟩⟩]
    refine And.intro (fun h4 => ?_) (fun h4 => ?_)
    · refine And.intro ⟨?_, hend'⟩ rfl
      rw [hq, b2i0 h4]
      rfl
    · refine And.intro ⟨?_, hend'⟩ rfl
      rw [hq, b2i1 h4]
      rfl
  · have hu : x_ib 8 x (nk 0) = nI (uN x / 2 ^ n) := by
      have e := pk_ushrN (uN_lt x) (nI n) n (ush_n n (by omega))
      rw [nI_uN] at e
      rw [hb]
      exact e
    refine And.intro ⟨?_, hend⟩ rfl
    unfold qHalves
    rw [if_neg]
    rintro ⟨-, q⟩
    have q := of_decide_eq_true q
    apply h3
    show x_ib 8 x (nk 0) = 0
    rw [hu, Nat.div_eq_of_lt q.2]
    rfl
/-- the next row, in its array -/
theorem m_steps (l : Launch) (bs : Nat → Nat) (n : Nat) (nt rm : Nat → Int32) (ln : Int32) (lg : Nat → Int64) (th : Int32) (nk be fi se ro pl : Nat → Int32) (hB : MB bs n nk be) (m : Nat) (hm : m < n) (q : Nat → Nat) (hq : qAsc n q m) (hpl : ∀ i, i < m → pl i = nI (q i)) (x : Int32) (hx : x = nI m) :
    Ev l zX5_steps [.inr (40, 0), vI x] (mnH th nk nt rm ln lg be fi se ro pl) (fun r h' => (r = some (vI 0) ∧ aft n (qL q m) = [] ∧ ∃ pl' : Nat → Int32, h' = mnH th nk nt rm ln lg be fi se ro pl') ∨ (r = some (vI 1) ∧ ∃ (q' : Nat → Nat) (pl' : Nat → Int32), qAsc n q' m ∧ (∀ i, i < m → pl' i = nI (q' i)) ∧ aft n (qL q m) = qL q' m :: aft n (qL q' m) ∧ h' = mnH th nk nt rm ln lg be fi se ro pl')) := by
  subst hx
  obtain ⟨hn, hs, hb, hbe⟩ := id hB
  have haft := aft_next (N := n) (qL q m)
  refine ev_all okX5_steps (by decide +kernel) (Nat.le_of_ble_eq_true rfl) ?_
  intro K hK
  have hqlt : ∀ i, i < m → q i < 2 ^ 20 := fun i hi => by have := (hq.1 i hi).2; omega
  -- down to the first place that is not at its end
  have loopD : ∀ (j : Nat), j ≤ m → (∀ i, j ≤ i → i < m → q i + m = n + i) → ∀ y : Int32, y = nI j - 1 → K 4 [(0, .inr (40, 0)), (1, vI (nI m)), (2, vI y)] [] (mnH th nk nt rm ln lg be fi se ro pl) := by
    intro j
    induction j with
    | zero =>
      intro _ hall y hy
      have hy : y = -1 := hy
      subst hy
      refine hK [] 60 4 _ _ _ ?_
      refine And.intro (fun _ => ?_) (fun z => absurd (by decide) z)
      refine And.intro (fun z => absurd z (by decide)) (fun _ => ?_)
      refine And.intro (Or.inl rfl) (And.intro (Or.inl ⟨rfl, ?_, pl, rfl⟩) rfl)
      rw [haft, stp_none m q (fun i hi => hall i (Nat.zero_le i) hi)]
    | succ j ih =>
      intro hjm hall y hy
      have hy : y = nI j := by
        rw [hy, ← nI_1, Int32.add_sub_cancel]
      subst hy
      have hbound : x_ib 0 (x_ib 1 (nk 0) (nI m)) (nI j) = nI (n - m + j) := by
        show nk 0 - nI m + nI j = _
        rw [hb, pk_sub (by omega), nI_add]
      refine hK [(4, [0, 1, 2]), (51, [0, 1, 3])] 60 4 _ _ _ ?_
      refine And.intro (fun z => absurd z (nI_pos (by omega))) (fun _ => ?_)
      refine And.intro (vp_in_nI (by omega) (by omega)) ?_
      have hplj : pl (nI j).toNatClampNeg = nI (q j) := by rw [nI_clamp (by omega)]; exact hpl j (by omega)
      have hqj := (hq.1 j (by omega)).2
      refine And.intro (fun z => ?_) (fun z => ?_)
      · -- this one moves
        have z : ¬ pl (nI j).toNatClampNeg = nI (n - m + j) := fun w => z (w.trans hbound.symm)
        rw [hplj, nI_eq (by omega) (by omega)] at z
        have hlt : q j + m < n + j := by omega
        have hst := stp_some m j q (by omega) (fun i h1 h2 => hall i (by omega) h2) hlt
        have hq' := qAsc_next hq (show j < m by omega) hlt
        refine And.intro (fun _ => ?_) (fun w => absurd (nI_pos' (by omega)) w)
        refine And.intro (vp_in_nI (by omega) (by omega)) (And.intro (vp_in_nI (by omega) (by omega)) ?_)
        -- fill behind it
        have loopF : ∀ (d i : Nat), i + d = m → j < i → ∀ (pl' : Nat → Int32), (∀ a, a < i → pl' a = nI (if a < j then q a else q j + 1 + (a - j))) → ∀ y : Int32, y = nI i → K 51 [(0, .inr (40, 0)), (1, vI (nI m)), (3, vI y)] [] (mnH th nk nt rm ln lg be fi se ro pl') := by
          intro d
          induction d with
          | zero =>
            intro i hi hji pl' hpl' y hy
            have hi : i = m := hi
            subst hi; subst hy
            refine hK [] 60 51 _ _ _ ?_
            refine And.intro (fun _ => ?_) (fun w => absurd (Int32.le_refl _) w)
            refine And.intro (Or.inr rfl) (And.intro (Or.inr ⟨rfl, _, pl', hq', fun a ha => hpl' a ha, ?_, rfl⟩) rfl)
            rw [haft, hst]
          | succ d ihd =>
            intro i hi hji pl' hpl' y hy
            subst hy
            have e1 : nI i - 1 = nI (i - 1) := pk_sub (b := 1) (by omega)
            refine hK [(51, [0, 1, 3])] 60 51 _ _ _ ?_
            refine And.intro (fun w => absurd w (nI_ge (by omega) (by omega))) (fun _ => ?_)
            refine And.intro (by show vp_in (nI i - 1) 24; rw [e1]; exact vp_in_nI (by omega) (by omega)) ?_
            refine And.intro (vp_in_nI (by omega) (by omega)) ?_
            refine ihd (i + 1) (by omega) (by omega) _ (fun a ha => ?_) _ (nI_1 i)
            rw [nI_clamp (show i < 2 ^ 31 by omega)]
            by_cases hai : a = i
            · subst hai
              rw [pk_us]
              show pl' (nI a - 1).toNatClampNeg + 1 = _
              rw [e1, nI_clamp (by omega), hpl' (a - 1) (by omega), if_neg (by omega), if_neg (by omega), nI_1]
              congr 1
              omega
            · rw [pk_un hai]
              exact hpl' a (by omega)
        refine loopF (m - (j + 1)) (j + 1) (by omega) (by omega) _ (fun a ha => ?_) _ (nI_1 j)
        rw [nI_clamp (show j < 2 ^ 31 by omega)]
        by_cases haj : a = j
        · subst haj
          rw [pk_us, if_neg (by omega), hpl a (by omega)]
          show nI (q a) + 1 = _
          rw [nI_1]
          congr 1
          omega
        · rw [pk_un haj, if_pos (by omega)]
          exact hpl a (by omega)
      · have z : pl (nI j).toNatClampNeg = nI (n - m + j) := z.trans hbound
        rw [hplj, nI_eq (by omega) (by omega)] at z
        refine ih (by omega) (fun i h1 h2 => ?_) _ (show nI j + (-1) = nI j - 1 by rw [Int32.sub_eq_add_neg])
        by_cases hij : i = j
        · subst hij; omega
        · exact hall i (by omega) h2
  refine hK [(4, [0, 1, 2])] 60 0 _ _ _ ?_
  exact loopD m (Nat.le_refl m) (fun i h1 h2 => absurd h2 (by omega)) _ rfl
theorem one_shl : ∀ k : Nat, k < 25 → (1 : Int32) <<< (nI k &&& 31) = nI (2 ^ k) := by decide +kernel
theorem m_tries (l : Launch) (bs : Nat → Nat) (n : Nat) (nt rm : Nat → Int32) (ln : Int32) (lg : Nat → Int64) (th : Int32) (nk be fi se ro pl : Nat → Int32) (hB : MB bs n nk be) (m : Nat) (hm4 : m ≤ 4) (hm : m < n) (x : Int32) (hx : x = nI m) :
    Ev l zX5_tries [.inr (40, 0), vI x] (mnH th nk nt rm ln lg be fi se ro pl) (fun r h' => r = none ∧ ∃ (fi' se' ro' pl' : Nat → Int32), FR (nRowsL bs n m) m ro' ∧ h' = mnH th (upd nk 1 (nI (nRowsL bs n m).length)) nt rm ln lg be fi' se' ro' pl') := by
  subst hx
  obtain ⟨hn, hs, hb, hbe⟩ := id hB
  have hlenC : ∀ (m d lo : Nat), (cmb m d lo).length ≤ cost m d := by
    intro m
    induction m with
    | zero => intro d lo; cases d <;> exact Nat.le_refl 1
    | succ m ihm =>
      intro d
      induction d with
      | zero => intro lo; exact Nat.zero_le _
      | succ d ihd =>
        intro lo
        have a1 := ihm d (lo + 1)
        have a2 := ihd (lo + 1)
        unfold cmb cost
        rw [List.length_append, List.length_map]
        omega
  have hrl : (nRowsL bs n m).length ≤ 900000 := by
    have h9 := cost_le m (by omega) (n - 1) (by omega)
    have h7 := hlenC m (n - 1) 1
    have h6 : (nRowsL bs n m).length ≤ (cmb m (n - 1) 1).length := List.length_filter_le _ _
    omega
  refine ev_all okX5_tries (by decide +kernel) (Nat.le_of_ble_eq_true rfl) ?_
  intro K hK
  have hMB : ∀ v : Int32, MB bs n (upd nk 1 v) be := fun v => ⟨hn, hs, by rw [pk_un (by omega)]; exact hb, hbe⟩
  -- one row
  have body : ∀ (q : Nat → Nat) (acc : List (List Nat)), qAsc n q m → acc.length ≤ 900000 →
      (∀ (fi se ro pl : Nat → Int32) (v : Int32), v = nI (acc ++ cond (nHalL bs n (qL q m)) [qL q m] []).length → (∀ i, i < m → pl i = nI (q i)) → FR (acc ++ cond (nHalL bs n (qL q m)) [qL q m] []) m ro → K 128 [(0, .inr (40, 0)), (1, vI (nI m))] [] (mnH th (upd nk 1 v) nt rm ln lg be fi se ro pl)) →
      ∀ (fi se ro pl : Nat → Int32) (v : Int32), v = nI acc.length → (∀ i, i < m → pl i = nI (q i)) → FR acc m ro → K 41 [(0, .inr (40, 0)), (1, vI (nI m)), (2, vI 1)] [] (mnH th (upd nk 1 v) nt rm ln lg be fi se ro pl) := by
    intro q acc hq hacl next fi se ro pl v hv hpl hFR
    have hq24 : ∀ i, i < m → q i < 24 := fun i hi => by have := (hq.1 i hi).2; omega
    have hmsk : ∀ k, k ≤ m → mskF q k < 2 ^ 24 := fun k hk => mskF_lt (fun i hi => hq24 i (by omega))
    -- behind a row that halves
    have at118 : nHalL bs n (qL q m) = true → ∀ (fi se ro' : Nat → Int32), FR (acc ++ [qL q m]) m ro' → K 118 [(0, .inr (40, 0)), (1, vI (nI m))] [] (mnH th (upd nk 1 v) nt rm ln lg be fi se ro' pl) := by
      intro hh fi se ro' hFR'
      refine hK [(128, [0, 1])] 60 118 _ _ _ ?_
      rw [hh] at next
      refine next fi se ro' pl (v + 1) ?_ hpl hFR'
      rw [hv, nI_1]
      simp
    have loopM : ∀ (d k : Nat), k + d = m → ∀ A y : Int32, A = nI (mskF q k) → y = nI k → K 50 [(0, .inr (40, 0)), (1, vI (nI m)), (3, vI A), (4, vI y)] [] (mnH th (upd nk 1 v) nt rm ln lg be fi se ro pl) := by
      intro d
      induction d with
      | zero =>
        intro k hk A y hA hy
        have hk : k = m := hk
        subst hk; subst hy
        have hX := hmsk k (Nat.le_refl k)
        refine hK [(85, [0, 1, 4]), (128, [0, 1])] 60 50 _ _ _ ?_
        refine And.intro (fun _ => ?_) (fun z => absurd (Int32.le_refl _) z)
        refine ⟨[40, 41, 42, 43, 44, 45], _, m_isHalved l bs n nt rm ln lg th (upd nk 1 v) be fi se ro pl (hMB v) (mskF q k) (by omega) _ hA, fun r hc' hP _ => ?_⟩
        obtain ⟨rfl, fi', se', rfl⟩ := hP
        rw [msk_hal]
        refine And.intro (fun h1 => ?_) (fun h1 => ?_)
        · have hf := b2i0 h1
          rw [hf] at next
          refine next fi' se' ro pl v ?_ hpl ?_
          · rw [hv]; simp
          · simpa using hFR
        · have ht := b2i1 h1
          by_cases hz : acc = []
          · have hv0 : v = 0 := by rw [hv, hz]; rfl
            have loopR : ∀ (d i : Nat), i + d = k → ∀ (ro' : Nat → Int32), (∀ a, a < i → ro' a = nI (q a)) → ∀ y : Int32, y = nI i → K 85 [(0, .inr (40, 0)), (1, vI (nI k)), (4, vI y)] [] (mnH th (upd nk 1 v) nt rm ln lg be fi' se' ro' pl) := by
              intro d
              induction d with
              | zero =>
                intro i hi ro' hro y hy
                have hi : i = k := hi
                subst hi; subst hy
                refine hK [(118, [0, 1])] 60 85 _ _ _ ?_
                refine And.intro (fun _ => ?_) (fun z => absurd (Int32.le_refl _) z)
                refine at118 ht fi' se' ro' (fun cs t e a ha => ?_)
                rw [hz] at e
                cases e
                rw [hro a ha, qL_get ha]
              | succ d ih =>
                intro i hi ro' hro y hy
                subst hy
                refine hK [(85, [0, 1, 4]), (118, [0, 1])] 60 85 _ _ _ ?_
                refine And.intro (fun z => absurd z (nI_ge (by omega) (by omega))) (fun _ => ?_)
                refine And.intro (fun z => absurd hv0 z) (fun _ => ?_)
                refine And.intro (vp_in_nI (by omega) (by omega)) (And.intro (vp_in_nI (by omega) (by omega)) ?_)
                refine ih (i + 1) (by omega) _ (fun a ha => ?_) _ (nI_1 i)
                rw [nI_clamp (show i < 2 ^ 31 by omega)]
                by_cases hai : a = i
                · rw [hai, pk_us]
                  exact hpl i (by omega)
                · rw [pk_un hai]
                  exact hro a (by omega)
            exact loopR k 0 (by omega) ro (fun a ha => absurd ha (Nat.not_lt_zero a)) 0 rfl
          · have hvn : ¬ v = 0 := by
              rw [hv]
              have : acc.length ≠ 0 := fun z => hz (List.length_eq_zero_iff.mp z)
              exact nI_ne0 (by omega) (by omega)
            have hFR' : FR (acc ++ [qL q k]) k ro := by
              intro cs t e a ha
              cases acc with
              | nil => exact absurd rfl hz
              | cons b acc =>
                cases e
                exact hFR _ _ rfl a ha
            refine hK [(118, [0, 1])] 60 85 _ _ _ ?_
            refine And.intro (fun _ => at118 ht fi' se' ro hFR') (fun _ => ?_)
            refine And.intro (fun _ => at118 ht fi' se' ro hFR') (fun z => absurd z hvn)
      | succ d ih =>
        intro k hk A y hA hy
        subst hy
        refine hK [(50, [0, 1, 3, 4])] 60 50 _ _ _ ?_
        refine And.intro (fun z => absurd z (nI_ge (by omega) (by omega))) (fun _ => ?_)
        refine And.intro (vp_in_nI (by omega) (by omega)) ?_
        refine ih (k + 1) (by omega) _ _ ?_ (nI_1 k)
        show A ||| ((1 : Int32) <<< (pl (nI k).toNatClampNeg &&& 31)) = _
        have := hq24 k (by omega)
        rw [nI_clamp (by omega), hpl k (by omega), one_shl (q k) (by omega), hA, nx_or]
        rfl
    refine hK [(50, [0, 1, 3, 4])] 60 41 _ _ _ ?_
    refine And.intro (fun z => absurd z (by decide)) (fun _ => ?_)
    exact loopM m 0 (by omega) 0 0 rfl rfl
  have hcond : ∀ (cs : List Nat) (R : List (List Nat)), (cs :: R).filter (nHalL bs n) = cond (nHalL bs n cs) [cs] [] ++ R.filter (nHalL bs n) := by
    intro cs R
    rw [List.filter_cons]
    cases nHalL bs n cs <;> rfl
  -- the rows, one after the other
  have loopW : ∀ (R : List (List Nat)) (q : Nat → Nat) (acc : List (List Nat)), qAsc n q m → aft n (qL q m) = R → nRowsL bs n m = acc ++ (qL q m :: R).filter (nHalL bs n) → ∀ (fi se ro pl : Nat → Int32) (v : Int32), v = nI acc.length → (∀ i, i < m → pl i = nI (q i)) → FR acc m ro → K 41 [(0, .inr (40, 0)), (1, vI (nI m)), (2, vI 1)] [] (mnH th (upd nk 1 v) nt rm ln lg be fi se ro pl) := by
    intro R
    induction R with
    | nil =>
      intro q acc hq hR hrows
      have at128 : ∀ acc' : List (List Nat), nRowsL bs n m = acc' → ∀ (fi se ro pl : Nat → Int32) (v : Int32), v = nI acc'.length → (∀ i, i < m → pl i = nI (q i)) → FR acc' m ro → K 128 [(0, .inr (40, 0)), (1, vI (nI m))] [] (mnH th (upd nk 1 v) nt rm ln lg be fi se ro pl) := by
        intro acc' hacc fi se ro pl v hv hpl hFR
        subst hv
        refine hK [(41, [0, 1, 2])] 60 128 _ _ _ ?_
        refine ⟨[40, 41, 42, 43, 44, 45], _, m_steps l bs n nt rm ln lg th (upd nk 1 (nI acc'.length)) be fi se ro pl (hMB _) m hm q hq hpl _ rfl, fun r hc' hP _ => ?_⟩
        rcases hP with ⟨rfl, -, pl', rfl⟩ | ⟨rfl, q', pl', -, -, hbad, -⟩
        · refine hK [] 60 41 _ _ _ ?_
          refine And.intro (fun _ => ?_) (fun z => absurd rfl z)
          refine And.intro ⟨rfl, fi, se, ro, pl', by rw [hacc]; exact hFR, by rw [hacc]; rfl⟩ rfl
        · rw [hR] at hbad
          cases hbad
      intro fi se ro pl v hv hpl hFR
      have hlen : acc.length ≤ 900000 := by
        have : acc.length ≤ (nRowsL bs n m).length := by rw [hrows, List.length_append]; omega
        omega
      exact body q acc hq hlen (fun fi se ro pl v hv hpl hFR => at128 _ (by rw [hrows, hcond]; simp) fi se ro pl v hv hpl hFR) fi se ro pl v hv hpl hFR
    | cons cs' R ih =>
      intro q acc hq hR hrows
      have at128 : ∀ acc' : List (List Nat), nRowsL bs n m = acc' ++ (cs' :: R).filter (nHalL bs n) → ∀ (fi se ro pl : Nat → Int32) (v : Int32), v = nI acc'.length → (∀ i, i < m → pl i = nI (q i)) → FR acc' m ro → K 128 [(0, .inr (40, 0)), (1, vI (nI m))] [] (mnH th (upd nk 1 v) nt rm ln lg be fi se ro pl) := by
        intro acc' hacc fi se ro pl v hv hpl hFR
        refine hK [(41, [0, 1, 2])] 60 128 _ _ _ ?_
        refine ⟨[40, 41, 42, 43, 44, 45], _, m_steps l bs n nt rm ln lg th (upd nk 1 v) be fi se ro pl (hMB _) m hm q hq hpl _ rfl, fun r hc' hP _ => ?_⟩
        rcases hP with ⟨rfl, hbad, -⟩ | ⟨rfl, q', pl', hq', hpl', hnx, rfl⟩
        · rw [hR] at hbad
          cases hbad
        · rw [hR] at hnx
          cases hnx
          exact ih q' acc' hq' rfl hacc fi se ro pl' v hv hpl' hFR
      intro fi se ro pl v hv hpl hFR
      have hlen : acc.length ≤ 900000 := by
        have : acc.length ≤ (nRowsL bs n m).length := by rw [hrows, List.length_append]; omega
        omega
      exact body q acc hq hlen (fun fi se ro pl v hv hpl hFR => at128 _ (by rw [hrows, hcond, List.append_assoc]) fi se ro pl v hv hpl hFR) fi se ro pl v hv hpl hFR
  -- the first row
  have loopI : ∀ (d k : Nat), k + d = m → ∀ (pl : Nat → Int32), (∀ i, i < k → pl i = nI (1 + i)) → ∀ y : Int32, y = nI k → K 7 [(0, .inr (40, 0)), (1, vI (nI m)), (2, vI y)] [] (mnH th (upd nk 1 0) nt rm ln lg be fi se ro pl) := by
    intro d
    induction d with
    | zero =>
      intro k hk pl hpl y hy
      have hk : k = m := hk
      subst hk; subst hy
      refine hK [(41, [0, 1, 2])] 60 7 _ _ _ ?_
      refine And.intro (fun _ => ?_) (fun z => absurd (Int32.le_refl _) z)
      refine And.intro (fun z => absurd z (by show ¬ upd nk 1 0 0 ≤ nI k; rw [pk_un (by omega), hb]; exact nI_ge (by omega) (by omega))) (fun _ => ?_)
      refine loopW (aft n (qL (fun i => 1 + i) k)) (fun i => 1 + i) [] ⟨fun i hi => ⟨by show 1 ≤ 1 + i; omega, by show 1 + i + k ≤ n + i; omega⟩, fun i j hij hj => by show 1 + i < 1 + j; omega⟩ rfl ?_ fi se ro pl 0 rfl hpl (fun cs t e => by cases e)
      unfold nRowsL
      rw [cmb_head (by omega), show 1 + (n - 1) = n by omega]
      rfl
    | succ d ih =>
      intro k hk pl hpl y hy
      subst hy
      refine hK [(7, [0, 1, 2])] 60 7 _ _ _ ?_
      refine And.intro (fun z => absurd z (nI_ge (by omega) (by omega))) (fun _ => ?_)
      refine And.intro (vp_in_nI (by omega) (by omega)) ?_
      refine ih (k + 1) (by omega) _ (fun i hi => ?_) _ (nI_1 k)
      rw [nI_clamp (show k < 2 ^ 31 by omega)]
      by_cases hik : i = k
      · rw [hik, pk_us]
        show nI k + 1 = _
        rw [nI_1, Nat.add_comm]
      · rw [pk_un hik]
        exact hpl i (by omega)
  refine hK [(7, [0, 1, 2])] 60 0 _ _ _ ?_
  exact loopI m 0 (by omega) pl (fun i hi => absurd hi (Nat.not_lt_zero i)) 0 rfl
theorem m_finds (l : Launch) (bs : Nat → Nat) (n : Nat) (nt rm : Nat → Int32) (ln : Int32) (lg : Nat → Int64) (th : Int32) (nk be fi se ro pl : Nat → Int32) (hB : MB bs n nk be) (hn2 : 2 ≤ n) :
    Ev l zX5_finds [.inr (40, 0)] (mnH th nk nt rm ln lg be fi se ro pl) (fun r h' => r = none ∧ ∃ (nk' fi' se' ro' pl' : Nat → Int32), MB bs n nk' be ∧ nk' 1 = nI (nRowsL bs n (nFew bs n)).length ∧ nk' 2 = nI (nFew bs n) ∧ FR (nRowsL bs n (nFew bs n)) (nFew bs n) ro' ∧ h' = mnH th nk' nt rm ln lg be fi' se' ro' pl') := by
  obtain ⟨hn, hs, hb, hbe⟩ := id hB
  have hfl := nFew_le bs n
  have hfn := nFew_lt (bs := bs) (n := n) (by omega) hs
  have hMB : ∀ v w : Int32, MB bs n (upd (upd nk 2 v) 1 w) be := fun v w => ⟨hn, hs, by rw [pk_un (by omega), pk_un (by omega)]; exact hb, hbe⟩
  have hMB2 : ∀ v w x : Int32, MB bs n (upd (upd (upd nk 2 v) 1 w) 2 x) be := fun v w x => ⟨hn, hs, by rw [pk_un (by omega), pk_un (by omega), pk_un (by omega)]; exact hb, hbe⟩
  refine ev_all okX5_finds (by decide +kernel) (Nat.le_of_ble_eq_true rfl) ?_
  intro K hK
  have hrlen : ∀ m, m ≤ 4 → (nRowsL bs n m).length ≤ 900000 := by
    intro m hm
    have h9 := cost_le m (by omega) (n - 1) (by omega)
    have h8 : ∀ (m d lo : Nat), (cmb m d lo).length ≤ cost m d := by
      intro m
      induction m with
      | zero => intro d lo; cases d <;> exact Nat.le_refl 1
      | succ m ihm =>
        intro d
        induction d with
        | zero => intro lo; exact Nat.zero_le _
        | succ d ihd =>
          intro lo
          have a1 := ihm d (lo + 1)
          have a2 := ihd (lo + 1)
          unfold cmb cost
          rw [List.length_append, List.length_map]
          omega
    have h7 := h8 m (n - 1) 1
    have h6 : (nRowsL bs n m).length ≤ (cmb m (n - 1) 1).length := List.length_filter_le _ _
    omega
  have loop : ∀ (d m : Nat), m + d = nFew bs n → ∀ (nk' fi se ro pl : Nat → Int32), MB bs n nk' be → nk' 1 = nI (nRowsL bs n m).length → nk' 2 = nI m → FR (nRowsL bs n m) m ro → K 10 [(0, .inr (40, 0))] [] (mnH th nk' nt rm ln lg be fi se ro pl) := by
    intro d
    induction d with
    | zero =>
      intro m hm nk' fi se ro pl hB' h1 h2 hFR
      have hm : m = nFew bs n := hm
      have hrows := nFew_rows (bs := bs) (n := n) (by omega) hs
      rw [← hm] at hrows
      refine hK [] 60 10 _ _ _ ?_
      refine And.intro (fun _ => ?_) (fun z => ?_)
      · refine And.intro ⟨rfl, nk', fi, se, ro, pl, hB', by rw [← hm]; exact h1, by rw [← hm]; exact h2, by rw [← hm]; exact hFR, rfl⟩ rfl
      · exfalso
        have z : nk' 1 = nI 0 := z
        have := hrlen m (by omega)
        rw [h1, nI_eq (by omega) (by omega)] at z
        exact hrows (List.length_eq_zero_iff.mp z)
    | succ d ih =>
      intro m hm nk' fi se ro pl hB' h1 h2 hFR
      have hnil := nFew_before (bs := bs) (n := n) (m := m) (by omega)
      refine hK [(10, [0])] 60 10 _ _ _ ?_
      refine And.intro (fun z => absurd (by show nk' 1 = 0; rw [h1, hnil]; rfl) z) (fun _ => ?_)
      have hB2 : MB bs n (upd nk' 2 (nk' 2 + 1)) be := ⟨hn, hs, by rw [pk_un (by omega)]; exact hB'.2.2.1, hbe⟩
      refine ⟨[40, 41, 42, 43, 44, 45], _, m_tries l bs n nt rm ln lg th (upd nk' 2 (nk' 2 + 1)) be fi se ro pl hB2 (m + 1) (by omega) (by omega) _ (by show nk' 2 + 1 = _; rw [h2, nI_1]), fun r hc' hP _ => ?_⟩
      obtain ⟨rfl, fi', se', ro', pl', hFR', rfl⟩ := hP
      refine ih (m + 1) (by omega) (upd (upd nk' 2 (nk' 2 + 1)) 1 (nI (nRowsL bs n (m + 1)).length)) fi' se' ro' pl' ⟨hn, hs, by rw [pk_un (by omega), pk_un (by omega)]; exact hB'.2.2.1, hbe⟩ pk_us ?_ hFR'
      rw [pk_un (by omega), pk_us, h2, nI_1]
  refine hK [(10, [0])] 60 0 _ _ _ ?_
  refine ⟨[40, 41, 42, 43, 44, 45], _, m_tries l bs n nt rm ln lg th (upd nk 2 0) be fi se ro pl ⟨hn, hs, by rw [pk_un (by omega)]; exact hb, hbe⟩ 0 (by omega) (by omega) _ rfl, fun r hc' hP _ => ?_⟩
  obtain ⟨rfl, fi', se', ro', pl', hFR', rfl⟩ := hP
  exact loop (nFew bs n) 0 (by omega) (upd (upd nk 2 0) 1 (nI (nRowsL bs n 0).length)) fi' se' ro' pl' (hMB 0 _) pk_us (by rw [pk_un (by omega), pk_us]; rfl) hFR'
theorem m_least (l : Launch) (bs : Nat → Nat) (n : Nat) (nt rm : Nat → Int32) (ln : Int32) (lg : Nat → Int64) (h : xH) (hN : MN bs n nt rm ln lg h) : Ev l zX5_least [.inr (40, 0)] h (fun r h' => r = some (vI (qLeast bs n)) ∧ MN bs n nt rm ln lg h') := by
  obtain ⟨th, nk, be, fi, se, ro, pl, rfl, hB⟩ := hN
  obtain ⟨hn, hs, hb, hbe⟩ := id hB
  refine ev_run okX5_least (by decide +kernel) (Nat.le_of_ble_eq_true rfl) 100 ?_
  refine And.intro (fun h1 => ?_) (fun h1 => ?_)
  · have h1 : nI 2 ≤ nk 0 := h1
    rw [hb, nI_leI (by omega) (by omega)] at h1
    refine ⟨[40, 41, 42, 43, 44, 45], _, m_finds l bs n nt rm ln lg 0 nk be fi se ro pl hB h1, fun r hc' hP _ => ?_⟩
    obtain ⟨rfl, nk', fi', se', ro', pl', hB', e1, e2, hFR, rfl⟩ := hP
    refine And.intro ⟨?_, ⟨0, nk', be, fi', se', ro', pl', rfl, hB'⟩⟩ rfl
    unfold qLeast
    rw [if_neg (by omega)]
    show some (vI (nk' 2)) = _
    rw [e2]
  · have h1 : ¬ nI 2 ≤ nk 0 := h1
    rw [hb, nI_leI (by omega) (by omega)] at h1
    refine And.intro ⟨?_, ⟨0, nk, be, fi, se, ro, pl, rfl, hB⟩⟩ rfl
    unfold qLeast
    rw [if_pos (by omega)]
theorem m_rows (l : Launch) (bs : Nat → Nat) (n : Nat) (nt rm : Nat → Int32) (ln : Int32) (lg : Nat → Int64) (h : xH) (hN : MN bs n nt rm ln lg h) : Ev l zX5_rows [.inr (40, 0)] h (fun r h' => r = some (vI (qRows bs n)) ∧ MN bs n nt rm ln lg h') := by
  obtain ⟨th, nk, be, fi, se, ro, pl, rfl, hB⟩ := hN
  obtain ⟨hn, hs, hb, hbe⟩ := id hB
  refine ev_run okX5_rows (by decide +kernel) (Nat.le_of_ble_eq_true rfl) 100 ?_
  refine And.intro (fun h1 => ?_) (fun h1 => ?_)
  · have h1 : nI 2 ≤ nk 0 := h1
    rw [hb, nI_leI (by omega) (by omega)] at h1
    refine ⟨[40, 41, 42, 43, 44, 45], _, m_finds l bs n nt rm ln lg 0 nk be fi se ro pl hB h1, fun r hc' hP _ => ?_⟩
    obtain ⟨rfl, nk', fi', se', ro', pl', hB', e1, e2, hFR, rfl⟩ := hP
    refine And.intro ⟨?_, ⟨0, nk', be, fi', se', ro', pl', rfl, hB'⟩⟩ rfl
    unfold qRows
    rw [if_neg (by omega)]
    show some (vI (nk' 1)) = _
    rw [e1]
  · have h1 : ¬ nI 2 ≤ nk 0 := h1
    rw [hb, nI_leI (by omega) (by omega)] at h1
    refine And.intro ⟨?_, ⟨0, nk, be, fi, se, ro, pl, rfl, hB⟩⟩ rfl
    unfold qRows
    rw [if_pos (by omega)]
theorem m_cut (l : Launch) (bs : Nat → Nat) (n : Nat) (nt rm : Nat → Int32) (ln : Int32) (lg : Nat → Int64) (h : xH) (hN : MN bs n nt rm ln lg h) (k : Int32) : Ev l zX5_cut [.inr (40, 0), vI k] h (fun r h' => r = some (vI (qCut bs n k)) ∧ MN bs n nt rm ln lg h') := by
  obtain ⟨th, nk, be, fi, se, ro, pl, rfl, hB⟩ := hN
  obtain ⟨hn, hs, hb, hbe⟩ := id hB
  have hfl := nFew_le bs n
  refine ev_run okX5_cut (by decide +kernel) (Nat.le_of_ble_eq_true rfl) 100 ?_
  refine And.intro (fun h1 => ?_) (fun h1 => ?_)
  · have h1 : nI 2 ≤ nk 0 := h1
    rw [hb, nI_leI (by omega) (by omega)] at h1
    refine ⟨[40, 41, 42, 43, 44, 45], _, m_finds l bs n nt rm ln lg 0 nk be fi se ro pl hB h1, fun r hc' hP _ => ?_⟩
    obtain ⟨rfl, nk', fi', se', ro', pl', hB', e1, e2, hFR, rfl⟩ := hP
    have hend : MN bs n nt rm ln lg (mnH 0 nk' nt rm ln lg be fi' se' ro' pl') := ⟨0, nk', be, fi', se', ro', pl', rfl, hB'⟩
    have hT : (nk' 2).toInt = (nFew bs n : Int) := by rw [e2]; exact nI_toInt (by omega)
    refine And.intro (fun h2 => ?_) (fun h2 => And.intro (fun h3 => ?_) (fun h3 => ?_))
    · have h2 : k.toInt < 0 := lt_T.mp h2
      refine And.intro ⟨?_, hend⟩ rfl
      unfold qCut
      rw [if_neg (by omega)]
    · have h2 : ¬ k.toInt < 0 := fun q => h2 (lt_T.mpr q)
      have h3 : k.toInt < (nk' 2).toInt := lt_T.mp h3
      rw [hT] at h3
      obtain ⟨j, hj, rfl, hjt⟩ := nI_arg (x := k) (by omega)
      refine And.intro (vp_in_nI (by omega) (by omega)) ?_
      refine And.intro ⟨?_, hend⟩ rfl
      unfold qCut
      rw [if_pos ⟨h1, by omega, by omega⟩, hjt]
      show some (vI (ro' (nI j).toNatClampNeg)) = _
      rw [nI_clamp hj]
      have hrows := nFew_rows (bs := bs) (n := n) (by omega) hs
      cases hr : nRowsL bs n (nFew bs n) with
      | nil => exact absurd hr hrows
      | cons cs t =>
        rw [hFR cs t hr j (by omega)]
        rfl
    · have h3 : ¬ k.toInt < (nk' 2).toInt := fun q => h3 (lt_T.mpr q)
      rw [hT] at h3
      refine And.intro ⟨?_, hend⟩ rfl
      unfold qCut
      rw [if_neg (by omega)]
  · have h1 : ¬ nI 2 ≤ nk 0 := h1
    rw [hb, nI_leI (by omega) (by omega)] at h1
    refine And.intro ⟨?_, ⟨0, nk, be, fi, se, ro, pl, rfl, hB⟩⟩ rfl
    unfold qCut
    rw [if_neg (by omega)]
