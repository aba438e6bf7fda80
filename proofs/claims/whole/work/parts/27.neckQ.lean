/-! ===== Necklace: search and what asks for it ===== -/
theorem c_search (l : Launch) (bs : Nat → Nat) (n : Nat) (ah en ow fr : Nat → Int32) (bd se fw rc : Int32) (hB : NB bs n ah bd) (hn2 : 2 ≤ n) (ho0 : ow 0 = 0) (ho1 : ow 1 = 0) (hse : se = 0 ∨ (se = 1 ∧ NS bs n fr fw rc)) :
    Ev l zX1_search [.inr (1, 0)] (nkH ah en ow fr bd se fw rc) (fun r h' => r = none ∧ ∃ (en' ow' fr' : Nat → Int32) (fw' rc' : Int32), ow' 0 = 0 ∧ ow' 1 = 0 ∧ NS bs n fr' fw' rc' ∧ h' = nkH ah en' ow' fr' bd 1 fw' rc') := by
  have hn24 := hB.1
  refine ev_all okX1_search (by decide +kernel) (Nat.le_of_ble_eq_true rfl) ?_
  intro K hK
  refine hK [(20, [0, 1])] 60 0 _ _ _ ?_
  refine And.intro (fun h1 => ?_) (fun h1 => ?_)
  · -- a new search
    refine And.intro (Or.inr rfl) ?_
    have hs4 := hB.2.1
    have hfl := nFew_le bs n
    have hfn := nFew_lt (bs := bs) (n := n) (by omega) hs4
    obtain ⟨hn1, hs1, rfl, hah1⟩ := id hB
    have loop : ∀ (k m : Nat), m + k = nFew bs n → ∀ (en ow fr : Nat → Int32) (fw x : Int32), ow 0 = 0 → ow 1 = 0 → x = nI m → K 20 [(0, .inr (1, 0)), (1, vI x)] [] (nkH ah en ow fr (nI n) 1 fw 0) := by
      intro k
      induction k with
      | zero =>
        intro m hm en ow fr fw x ho0 ho1 hx
        subst hx
        have hm : m = nFew bs n := hm
        refine hK [(20, [0, 1])] 60 20 _ _ _ ?_
        refine And.intro (fun q => absurd q (nI_ge (by omega) (by omega))) (fun _ => ?_)
        refine And.intro (fun q => absurd rfl q) (fun _ => ?_)
        refine ⟨[1, 2, 3, 4, 5], _, c_searchRows l bs n ah en ow fr (nI n) 1 (nI m) hB m (by omega) (by omega) ho0 ho1 _ rfl, fun r hc' hP _ => ?_⟩
        obtain ⟨rfl, en', ow', fr', p0, p1, hFR, rfl⟩ := hP
        -- found: the loop ends
        refine hK [] 60 20 _ _ _ ?_
        have hend : (fun r h' => r = none ∧ ∃ (en' ow' fr' : Nat → Int32) (fw' rc' : Int32), ow' 0 = 0 ∧ ow' 1 = 0 ∧ NS bs n fr' fw' rc' ∧ h' = nkH ah en' ow' fr' (nI n) 1 fw' rc') (none : Option xV) (nkH ah en' ow' fr' (nI n) 1 (nI m) (nI (nRowsL bs n m).length)) := by
          refine ⟨rfl, en', ow', fr', nI m, _, p0, p1, ⟨hn2, by rw [hm], by rw [hm], ?_⟩, rfl⟩
          rw [← hm]
          exact hFR
        refine And.intro (fun _ => And.intro hend rfl) (fun _ => ?_)
        refine And.intro (fun _ => And.intro hend rfl) (fun q => ?_)
        exfalso
        have hrows := nFew_rows (bs := bs) (n := n) (by omega) hs4
        rw [← hm] at hrows
        have hlen : (nRowsL bs n m).length ≤ 900000 := by
          have h9 := cost_le m (by omega) (n - 1) (by omega)
          have h8 : ∀ (m d lo : Nat), (cmb m d lo).length ≤ cost m d := by
            intro m
            induction m with
            | zero => intro d lo; cases d <;> exact Nat.le_refl 1
            | succ m ihm =>
              intro d
              induction d with
              | zero => intro lo; exact Nat.zero_le _
              | succ d ihd =>
                intro lo
                have a1 := ihm d (lo + 1)
                have a2 := ihd (lo + 1)
                unfold cmb cost
                rw [List.length_append, List.length_map]
                omega
          have h7 := h8 m (n - 1) 1
          have h6 : (nRowsL bs n m).length ≤ (cmb m (n - 1) 1).length := List.length_filter_le _ _
          omega
        have q : nI (nRowsL bs n m).length = nI 0 := q
        rw [nI_eq (by omega) (by omega)] at q
        exact hrows (List.length_eq_zero_iff.mp q)
      | succ k ih =>
        intro m hm en ow fr fw x ho0 ho1 hx
        subst hx
        refine hK [(20, [0, 1])] 60 20 _ _ _ ?_
        refine And.intro (fun q => absurd q (nI_ge (by omega) (by omega))) (fun _ => ?_)
        refine And.intro (fun q => absurd rfl q) (fun _ => ?_)
        refine ⟨[1, 2, 3, 4, 5], _, c_searchRows l bs n ah en ow fr (nI n) 1 (nI m) hB m (by omega) (by omega) ho0 ho1 _ rfl, fun r hc' hP _ => ?_⟩
        obtain ⟨rfl, en', ow', fr', p0, p1, hFR, rfl⟩ := hP
        rw [nFew_before (by omega)]
        exact ih (m + 1) (by omega) en' ow' fr' (nI m) _ p0 p1 (nI_1 m)
    exact loop (nFew bs n) 0 (by omega) en ow fr fw 0 ho0 ho1 rfl
  · rcases hse with rfl | ⟨rfl, hS⟩
    · exact absurd rfl h1
    · exact And.intro ⟨rfl, en, ow, fr, fw, rc, ho0, ho1, hS, rfl⟩ rfl
def qLeast (bs : Nat → Nat) (n : Nat) : Int32 := if n < 2 then -1 else nI (nFew bs n)
def qRows (bs : Nat → Nat) (n : Nat) : Int32 := if n < 2 then -1 else nI (nRowsL bs n (nFew bs n)).length
def qCut (bs : Nat → Nat) (n : Nat) (k : Int32) : Int32 := if 2 ≤ n ∧ 0 ≤ k.toInt ∧ k.toInt < nFew bs n then nI (((nRowsL bs n (nFew bs n)).headD []).getD k.toInt.toNat 0) else -1
theorem c_fewest' (l : Launch) (bs : Nat → Nat) (n : Nat) (h : xH) (hN : NH bs n h) : Ev l zX1_fewestCuts [.inr (1, 0)] h (fun r h' => r = some (vI (qLeast bs n)) ∧ NH bs n h' ∧ (2 ≤ n → ∃ (ah en ow fr : Nat → Int32) (bd fw rc : Int32), h' = nkH ah en ow fr bd 1 fw rc ∧ NS bs n fr fw rc)) := by
  obtain ⟨ah, en, ow, fr, bd, se, fw, rc, rfl, hB, ho0, ho1, hse⟩ := hN
  obtain ⟨hn, hs, rfl, hah⟩ := id hB
  refine ev_run okX1_fewestCuts (by decide +kernel) (Nat.le_of_ble_eq_true rfl) 100 ?_
  refine And.intro (fun h1 => ?_) (fun h1 => ?_)
  · have h1 : nI 2 ≤ nI n := h1
    rw [nI_leI (by omega) (by omega)] at h1
    refine ⟨[1, 2, 3, 4, 5], _, c_search l bs n ah en ow fr (nI n) se fw rc hB h1 ho0 ho1 hse, fun r hc' hP _ => ?_⟩
    obtain ⟨rfl, en', ow', fr', fw', rc', p0, p1, hS, rfl⟩ := hP
    refine And.intro ⟨?_, ⟨ah, en', ow', fr', nI n, 1, fw', rc', rfl, hB, p0, p1, Or.inr ⟨rfl, hS⟩⟩, fun _ => ⟨ah, en', ow', fr', nI n, fw', rc', rfl, hS⟩⟩ rfl
    unfold qLeast
    rw [if_neg (by omega)]
    show some (vI fw') = _
    rw [hS.2.1]
  · have h1 : ¬ nI 2 ≤ nI n := h1
    rw [nI_leI (by omega) (by omega)] at h1
    refine And.intro ⟨?_, ⟨ah, en, ow, fr, nI n, se, fw, rc, rfl, hB, ho0, ho1, hse⟩, fun q => absurd q h1⟩ rfl
    unfold qLeast
    rw [if_pos (by omega)]
theorem ev_mono {l : Launch} {z : xM} {as : List xV} {hc : xH} {P P' : Option xV → xH → Prop} (h : Ev l z as hc P) (hp : ∀ r h', P r h' → P' r h') : Ev l z as hc P' := by
  intro D tc ad sz p e hx hcl hk s m args below
  intro h1 h2 h3 h4
  obtain ⟨k, o, a1, a2, a3, a4⟩ := h D tc ad sz p e hx hcl hk s m args below h1 h2 h3 h4
  refine ⟨k, o, a1, a2, a3, ?_⟩
  obtain ⟨⟨⟨r, hp', b1, b2⟩, b3⟩, b4⟩ := a4
  exact ⟨⟨⟨r, hp', hp r hp' b1, b2⟩, b3⟩, b4⟩
theorem c_fewest (l : Launch) (bs : Nat → Nat) (n : Nat) (h : xH) (hN : NH bs n h) : Ev l zX1_fewestCuts [.inr (1, 0)] h (fun r h' => r = some (vI (qLeast bs n)) ∧ NH bs n h') := ev_mono (c_fewest' l bs n h hN) (fun _ _ q => ⟨q.1, q.2.1⟩)
theorem c_countRows (l : Launch) (bs : Nat → Nat) (n : Nat) (h : xH) (hN : NH bs n h) : Ev l zX1_countRows [.inr (1, 0)] h (fun r h' => r = some (vI (qRows bs n)) ∧ NH bs n h') := by
  obtain ⟨ah, en, ow, fr, bd, se, fw, rc, rfl, hB, ho0, ho1, hse⟩ := hN
  obtain ⟨hn, hs, rfl, hah⟩ := id hB
  refine ev_run okX1_countRows (by decide +kernel) (Nat.le_of_ble_eq_true rfl) 100 ?_
  refine And.intro (fun h1 => ?_) (fun h1 => ?_)
  · have h1 : nI 2 ≤ nI n := h1
    rw [nI_leI (by omega) (by omega)] at h1
    refine ⟨[1, 2, 3, 4, 5], _, c_search l bs n ah en ow fr (nI n) se fw rc hB h1 ho0 ho1 hse, fun r hc' hP _ => ?_⟩
    obtain ⟨rfl, en', ow', fr', fw', rc', p0, p1, hS, rfl⟩ := hP
    refine And.intro ⟨?_, ⟨ah, en', ow', fr', nI n, 1, fw', rc', rfl, hB, p0, p1, Or.inr ⟨rfl, hS⟩⟩⟩ rfl
    unfold qRows
    rw [if_neg (by omega)]
    show some (vI rc') = _
    rw [hS.2.2.1]
  · have h1 : ¬ nI 2 ≤ nI n := h1
    rw [nI_leI (by omega) (by omega)] at h1
    refine And.intro ⟨?_, ⟨ah, en, ow, fr, nI n, se, fw, rc, rfl, hB, ho0, ho1, hse⟩⟩ rfl
    unfold qRows
    rw [if_pos (by omega)]
theorem c_cutOf (l : Launch) (bs : Nat → Nat) (n : Nat) (h : xH) (hN : NH bs n h) (k : Int32) : Ev l zX1_cutOfFirstRow [.inr (1, 0), vI k] h (fun r h' => r = some (vI (qCut bs n k)) ∧ NH bs n h') := by
  obtain ⟨ah0, en0, ow0, fr0, bd0, se0, fw0, rc0, rfl, hB0, ho00, ho10, hse0⟩ := id hN
  have hfl := nFew_le bs n
  have hn24 := hB0.1
  have hs4 := hB0.2.1
  refine ev_run okX1_cutOfFirstRow (by decide +kernel) (Nat.le_of_ble_eq_true rfl) 100 ?_
  refine And.intro (fun h1 => ?_) (fun h1 => ?_)
  · have h1 : k.toInt < 0 := lt_T.mp h1
    refine And.intro ⟨?_, hN⟩ rfl
    unfold qCut
    rw [if_neg (by omega)]
  · have h1 : ¬ k.toInt < 0 := fun q => h1 (lt_T.mpr q)
    refine ⟨[1, 2, 3, 4, 5], _, c_fewest' l bs n _ hN, fun r hc' hP _ => ?_⟩
    obtain ⟨rfl, hN', hS'⟩ := hP
    obtain ⟨ah, en, ow, fr, bd, se, fw, rc, rfl, hB, ho0, ho1, hse⟩ := id hN'
    refine And.intro (fun h2 => ?_) (fun h2 => ?_)
    · refine And.intro ⟨?_, hN'⟩ rfl
      have h2 := le_T.mp h2
      unfold qCut
      rw [if_neg]
      rintro ⟨q1, q2, q3⟩
      unfold qLeast at h2
      rw [if_neg (by omega), nI_toInt (by omega)] at h2
      omega
    · have h2 : ¬ (qLeast bs n).toInt ≤ k.toInt := fun q => h2 (le_T.mpr q)
      have hn2 : 2 ≤ n := by
        apply Classical.byContradiction
        intro q
        unfold qLeast at h2
        rw [if_pos (by omega)] at h2
        have : (-1 : Int32).toInt = -1 := by decide
        omega
      unfold qLeast at h2
      rw [if_neg (by omega), nI_toInt (by omega)] at h2
      obtain ⟨ah', en', ow', fr', bd', fw', rc', e, hS⟩ := hS' hn2
      cases e
      obtain ⟨j, hj, rfl, hjt⟩ := nI_arg (x := k) (by omega)
      refine And.intro (vp_in_nI (by omega) (by omega)) ?_
      refine And.intro ⟨?_, hN'⟩ rfl
      unfold qCut
      rw [if_pos ⟨hn2, by omega, by omega⟩, hjt]
      show some (vI (fr (nI j).toNatClampNeg)) = _
      rw [nI_clamp hj]
      have hrows := nFew_rows (bs := bs) (n := n) (by omega) hs4
      cases hr : nRowsL bs n (nFew bs n) with
      | nil => exact absurd hr hrows
      | cons cs t =>
        rw [hS.2.2.2 cs t hr j (by omega)]
        rfl
