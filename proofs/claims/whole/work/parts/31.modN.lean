/-! ===== the reference: its necklace ===== -/
abbrev mdO (th : Int32) (nk nt rm : Nat → Int32) (ln : Int32) (lg : Nat → Int64) : Nat × xC := (40, .inr (5, [vI th, .inr (41, 0), vI (nk 0), .inr (42, 0), .inr (43, 0), .inr (44, 0), vI (nk 1), vI (nk 2), .inr (45, 0), vI (nt 0), .inr (46, 0), vI (nt 1), vI (nt 2), vI (nt 3), vI (nt 4), vI (nt 5), vI (nt 6), vI (nt 7), vI (nt 8), vI (nt 9), vI (rm 0), .inr (47, 0), vI (rm 1), .inr (48, 0), .inr (49, 0), .inr (50, 0), vI (rm 2), .inr (51, 0), .inr (52, 0), vI ln, .inr (53, 0), .inr (54, 0), .inr (55, 0), .inr (56, 0), vL (lg 0), vL (lg 1)]))
abbrev iA (id n : Nat) (f : Nat → Int32) : Nat × xC := (id, .inl (0, n, 0, .inl f))
abbrev lA (id n : Nat) (f : Nat → Int64) : Nat × xC := (id, .inl (1, n, 0, .inr (.inl f)))
abbrev mnH (th : Int32) (nk nt rm : Nat → Int32) (ln : Int32) (lg : Nat → Int64) (be fi se ro pl : Nat → Int32) : xH := [mdO th nk nt rm ln lg, iA 41 24 be, iA 42 4 fi, iA 43 4 se, iA 44 24 ro, iA 45 24 pl]
def MB (bs : Nat → Nat) (n : Nat) (nk be : Nat → Int32) : Prop := n ≤ 24 ∧ (∀ k, k < n → bs k < 4) ∧ nk 0 = nI n ∧ ∀ k, k < n → be k = nI (bs k)
/-- the reference's part for the necklace, other fields as they are -/
def MN (bs : Nat → Nat) (n : Nat) (nt rm : Nat → Int32) (ln : Int32) (lg : Nat → Int64) (h : xH) : Prop := ∃ (th : Int32) (nk be fi se ro pl : Nat → Int32), h = mnH th nk nt rm ln lg be fi se ro pl ∧ MB bs n nk be
theorem m_bead (l : Launch) (bs : Nat → Nat) (n : Nat) (nt rm : Nat → Int32) (ln : Int32) (lg : Nat → Int64) (h : xH) (hN : MN bs n nt rm ln lg h) (k : Int32) : Ev l zX5_bead [.inr (40, 0), vI k] h (fun r h' => r = some (vI (qBead n k)) ∧ MN (sBead bs n k) (mBead n k) nt rm ln lg h') := by
  obtain ⟨th, nk, be, fi, se, ro, pl, rfl, hn, hs, hb, hbe⟩ := hN
  have hbad : okBead n k = false → MN (sBead bs n k) (mBead n k) nt rm ln lg (mnH 0 nk nt rm ln lg be fi se ro pl) := fun q => by
    have e1 : sBead bs n k = bs := by unfold sBead; rw [q]; rfl
    have e2 : mBead n k = n := by unfold mBead; rw [q]; rfl
    rw [e1, e2]
    exact ⟨0, nk, be, fi, se, ro, pl, rfl, hn, hs, hb, hbe⟩
  have hqb : okBead n k = false → some (vI (-1)) = some (vI (qBead n k)) := fun q => by
    unfold qBead
    rw [q]
    rfl
  refine ev_run okX5_bead (by decide +kernel) (Nat.le_of_ble_eq_true rfl) 100 ?_
  refine And.intro (fun h1 => ?_) (fun h1 => And.intro (fun h2 => ?_) (fun h2 => And.intro (fun h3 => ?_) (fun h3 => ?_)))
  · have h1 : k.toInt < 0 := lt_T.mp h1
    have q : okBead n k = false := by unfold okBead; rw [decide_eq_false (by omega)]; rfl
    exact And.intro ⟨hqb q, hbad q⟩ rfl
  · have h2 : 3 < k.toInt := lt_T.mp h2
    have q : okBead n k = false := by unfold okBead; rw [decide_eq_false (by omega)]; rfl
    exact And.intro ⟨hqb q, hbad q⟩ rfl
  · have h1 : ¬ k.toInt < 0 := fun q => h1 (lt_T.mpr q)
    have h2 : ¬ 3 < k.toInt := fun q => h2 (lt_T.mpr q)
    have h3 : ¬ nk 0 = nI 24 := h3
    rw [hb, nI_eq (by omega) (by omega)] at h3
    have q : okBead n k = true := by unfold okBead; rw [decide_eq_true (by omega), decide_eq_true (by omega)]; rfl
    obtain ⟨j, hj, rfl, hjt⟩ := nI_arg (x := k) (by omega)
    have hj4 : j < 4 := by omega
    refine And.intro (by show vp_in (nk 0) 24; rw [hb]; exact vp_in_nI (by omega) (by omega)) ?_
    refine And.intro ⟨?_, ?_⟩ rfl
    · unfold qBead
      rw [q]
      show some (vI (nk 0 + 1)) = _
      rw [hb, nI_1]
      rfl
    · have e1 : sBead bs n (nI j) = upN bs n j := by
        unfold sBead
        rw [q, if_pos rfl, hjt]
        rfl
      have e2 : mBead n (nI j) = n + 1 := by unfold mBead; rw [q]; rfl
      rw [e1, e2]
      refine ⟨0, upd nk 0 (nk 0 + 1), upd be (nk 0).toNatClampNeg (nI j), fi, se, ro, pl, rfl, by omega, fun i hi => ?_, ?_, fun i hi => ?_⟩
      · by_cases hin : i = n
        · rw [hin, upN_self]; exact hj4
        · rw [upN_ne bs j hin]; exact hs i (by omega)
      · rw [pk_us, hb, nI_1]
      · rw [hb, nI_clamp (by omega)]
        by_cases hin : i = n
        · rw [hin, upN_self, pk_us]
        · rw [upN_ne bs j hin, pk_un hin]
          exact hbe i (by omega)
  · have h3 : nk 0 = nI 24 := h3
    rw [hb, nI_eq (by omega) (by omega)] at h3
    have q : okBead n k = false := by unfold okBead; rw [decide_eq_false (show ¬ n < 24 by omega), Bool.and_false]
    exact And.intro ⟨hqb q, hbad q⟩ rfl
theorem m_beads (l : Launch) (bs : Nat → Nat) (n : Nat) (nt rm : Nat → Int32) (ln : Int32) (lg : Nat → Int64) (h : xH) (hN : MN bs n nt rm ln lg h) (k : Int32) : Ev l zX5_beads [.inr (40, 0), vI k] h (fun r h' => r = some (vI (b2i (okBeads n k))) ∧ MN bs (mBeads n k) nt rm ln lg h') := by
  obtain ⟨th, nk, be, fi, se, ro, pl, rfl, hn, hs, hb, hbe⟩ := hN
  have hbad : okBeads n k = false → MN bs (mBeads n k) nt rm ln lg (mnH 0 nk nt rm ln lg be fi se ro pl) := fun q => by
    have e2 : mBeads n k = n := by unfold mBeads; rw [q]; rfl
    rw [e2]
    exact ⟨0, nk, be, fi, se, ro, pl, rfl, hn, hs, hb, hbe⟩
  have hT : (nk 0).toInt = (n : Int) := by rw [hb]; exact nI_toInt (by omega)
  refine ev_run okX5_beads (by decide +kernel) (Nat.le_of_ble_eq_true rfl) 100 ?_
  refine And.intro (fun h1 => ?_) (fun h1 => And.intro (fun h2 => ?_) (fun h2 => ?_))
  · have h1 : k.toInt < 0 := lt_T.mp h1
    have q : okBeads n k = false := by unfold okBeads; rw [decide_eq_false (by omega)]; rfl
    refine And.intro (Or.inl rfl) (And.intro ⟨?_, hbad q⟩ rfl)
    rw [q]
    rfl
  · have h1 : ¬ k.toInt < 0 := fun q => h1 (lt_T.mpr q)
    have h2 := le_T.mp h2
    have h2 : k.toInt ≤ (nk 0).toInt := h2
    rw [hT] at h2
    have q : okBeads n k = true := by unfold okBeads; rw [decide_eq_true (by omega), decide_eq_true h2]; rfl
    obtain ⟨j, hj, rfl, hjt⟩ := nI_arg (x := k) (by omega)
    refine And.intro (Or.inr rfl) (And.intro ⟨?_, ?_⟩ rfl)
    · rw [q]; rfl
    · have e2 : mBeads n (nI j) = j := by unfold mBeads; rw [q, if_pos rfl, hjt]; rfl
      rw [e2]
      exact ⟨0, upd nk 0 (nI j), be, fi, se, ro, pl, rfl, by omega, fun i hi => hs i (by omega), pk_us, fun i hi => hbe i (by omega)⟩
  · have h2 : ¬ k.toInt ≤ (n : Int) := fun q => h2 (le_T.mpr (by show k.toInt ≤ (nk 0).toInt; rw [hT]; exact q))
    have q : okBeads n k = false := by unfold okBeads; rw [decide_eq_false h2, Bool.and_false]
    refine And.intro (Or.inl rfl) (And.intro ⟨?_, hbad q⟩ rfl)
    rw [q]
    rfl
theorem m_count (l : Launch) (bs : Nat → Nat) (n : Nat) (nt rm : Nat → Int32) (ln : Int32) (lg : Nat → Int64) (h : xH) (hN : MN bs n nt rm ln lg h) (k : Int32) : Ev l zX5_count [.inr (40, 0), vI k] h (fun r h' => r = some (vI (qCount bs n k)) ∧ MN bs n nt rm ln lg h') := by
  obtain ⟨th, nk, be, fi, se, ro, pl, rfl, hn, hs, hb, hbe⟩ := hN
  have hend : MN bs n nt rm ln lg (mnH 0 nk nt rm ln lg be fi se ro pl) := ⟨0, nk, be, fi, se, ro, pl, rfl, hn, hs, hb, hbe⟩
  refine ev_all okX5_count (by decide +kernel) (Nat.le_of_ble_eq_true rfl) ?_
  intro K hK
  refine hK [(20, [0, 1, 2, 3])] 60 0 _ _ _ ?_
  refine And.intro (fun h1 => ?_) (fun h1 => And.intro (fun h2 => ?_) (fun h2 => ?_))
  · have h1 : k.toInt < 0 := lt_T.mp h1
    refine And.intro ⟨?_, hend⟩ rfl
    unfold qCount
    rw [if_neg (by omega)]
  · have h1 : ¬ k.toInt < 0 := fun q => h1 (lt_T.mpr q)
    have h2 : k.toInt ≤ 3 := le_T.mp h2
    obtain ⟨j, hj, rfl, hjt⟩ := nI_arg (x := k) (by omega)
    have loop : ∀ (d i : Nat), i + d = n → ∀ (x y : Int32), x = nI (cB bs j i) → y = nI i → K 20 [(0, .inr (40, 0)), (1, vI (nI j)), (2, vI x), (3, vI y)] [] (mnH 0 nk nt rm ln lg be fi se ro pl) := by
      intro d
      induction d with
      | zero =>
        intro i hi x y hx hy
        have hi : i = n := hi
        subst hi; subst hy
        refine hK [] 60 20 _ _ _ ?_
        refine And.intro (fun _ => ?_) (fun q => absurd (by show nk 0 ≤ nI i; rw [hb]; exact Int32.le_refl _) q)
        refine And.intro ⟨?_, hend⟩ rfl
        unfold qCount
        rw [if_pos ⟨by omega, by omega⟩, hjt, hx]
        rfl
      | succ d ih =>
        intro i hi x y hx hy
        subst hy
        refine hK [(20, [0, 1, 2, 3])] 60 20 _ _ _ ?_
        refine And.intro (fun q => absurd q (by show ¬ nk 0 ≤ nI i; rw [hb]; exact nI_ge (by omega) (by omega))) (fun _ => ?_)
        refine And.intro (vp_in_nI (by omega) (by omega)) ?_
        have hbi : be (nI i).toNatClampNeg = nI (bs i) := by rw [nI_clamp (by omega)]; exact hbe i (by omega)
        have hsi := hs i (by omega)
        have hcs : cB bs j (i + 1) = cB bs j i + cond (decide (bs i = j)) 1 0 := rfl
        refine And.intro (fun q => ?_) (fun q => ?_)
        · have q : ¬ be (nI i).toNatClampNeg = nI j := q
          rw [hbi, nI_eq (by omega) (by omega)] at q
          refine ih (i + 1) (by omega) _ _ ?_ (nI_1 i)
          rw [hcs, decide_eq_false q]
          show x + 0 = _
          rw [hx, Int32.add_zero]
          rfl
        · have q : be (nI i).toNatClampNeg = nI j := q
          rw [hbi, nI_eq (by omega) (by omega)] at q
          refine ih (i + 1) (by omega) _ _ ?_ (nI_1 i)
          rw [hcs, decide_eq_true q]
          show x + 1 = _
          rw [hx, nI_1]
          rfl
    exact loop n 0 (by omega) 0 0 rfl rfl
  · have h2 : ¬ k.toInt ≤ 3 := fun q => h2 (le_T.mpr q)
    refine And.intro ⟨?_, hend⟩ rfl
    unfold qCount
    rw [if_neg (by omega)]
theorem shr_n : ∀ k : Nat, k < 32 → ((nI k &&& 31).toBitVec.smod 32).toNat = k := by decide +kernel
theorem bit_shr {X k : Nat} (hX : X < 2 ^ 31) (hk : k < 32) : ((nI X >>> (nI k &&& 31)) &&& 1) = nI (X / 2 ^ k % 2) := by
  rw [pk_shrN hX (nI k &&& 31) k (shr_n k hk), show (1 : Int32) = nI 1 from rfl, nx_and]
  congr 1
  exact Nat.and_two_pow_sub_one_eq_mod _ 1
theorem nPar_stepS (c : Nat → Bool) (k : Nat) : nPar c (k + 1) = xor (nPar c k) (c (k + 1)) := rfl
theorem m_isHalved (l : Launch) (bs : Nat → Nat) (n : Nat) (nt rm : Nat → Int32) (ln : Int32) (lg : Nat → Int64) (th : Int32) (nk be fi se ro pl : Nat → Int32) (hB : MB bs n nk be) (X : Nat) (hX : X < 2 ^ 31) (x : Int32) (hx : x = nI X) :
    Ev l zX5_isHalved [.inr (40, 0), vI x] (mnH th nk nt rm ln lg be fi se ro pl) (fun r h' => r = some (vI (b2i (nHal bs n (cbit X)))) ∧ ∃ fi' se' : Nat → Int32, h' = mnH th nk nt rm ln lg be fi' se' ro pl) := by
  subst hx
  obtain ⟨hn, hs, hb, hbe⟩ := hB
  refine ev_all okX5_isHalved (by decide +kernel) (Nat.le_of_ble_eq_true rfl) ?_
  intro K hK
  -- the last loop
  have loopC : ∀ (d s : Nat), s + d = 4 → ∀ (fi se : Nat → Int32), (∀ j, j < 4 → fi j = nI (nCnt bs (cbit X) j false n) ∧ se j = nI (nCnt bs (cbit X) j true n)) → (∀ j, j < s → nH1 bs n (cbit X) j = true) → ∀ y : Int32, y = nI s → K 107 [(0, .inr (40, 0)), (3, vI y)] [] (mnH th nk nt rm ln lg be fi se ro pl) := by
    intro d
    induction d with
    | zero =>
      intro s hs4 fi se hcnt hall y hy
      have hs4 : s = 4 := hs4
      subst hs4; subst hy
      refine hK [] 60 107 _ _ _ ?_
      refine And.intro (fun _ => ?_) (fun q => absurd (by decide) q)
      refine And.intro (Or.inr rfl) (And.intro ⟨?_, fi, se, rfl⟩ rfl)
      have : nHal bs n (cbit X) = true := by
        unfold nHal
        rw [hall 0 (by omega), hall 1 (by omega), hall 2 (by omega), hall 3 (by omega)]
        rfl
      rw [this]
      rfl
    | succ d ih =>
      intro s hs4 fi se hcnt hall y hy
      subst hy
      refine hK [(107, [0, 3])] 60 107 _ _ _ ?_
      refine And.intro (fun q => absurd q (by show ¬ nI 4 ≤ nI s; exact nI_ge (by omega) (by omega))) (fun _ => ?_)
      refine And.intro (vp_in_nI (by omega) (by omega)) (And.intro (vp_in_nI (by omega) (by omega)) ?_)
      obtain ⟨c1, c2⟩ := hcnt s (by omega)
      have l1 := nCnt_le bs (cbit X) s false n
      have l2 := nCnt_le bs (cbit X) s true n
      have hd : (fi (nI s).toNatClampNeg - se (nI s).toNatClampNeg).toInt = (nCnt bs (cbit X) s false n : Int) - nCnt bs (cbit X) s true n := by
        rw [nI_clamp (by omega), c1, c2]
        exact pk_sub_toInt (by omega) (by omega)
      have hbadH : nH1 bs n (cbit X) s = false → b2i (nHal bs n (cbit X)) = 0 := fun q => by
        have : nHal bs n (cbit X) = false := by
          cases hq : nHal bs n (cbit X) with
          | false => rfl
          | true =>
            have := (nHal_iff.mp hq) s (by omega)
            unfold nH1 at q
            rw [decide_eq_true this] at q
            cases q
        rw [this]
        rfl
      refine And.intro (fun q => ?_) (fun q => ?_)
      · have q : (1 : Int) < (fi (nI s).toNatClampNeg - se (nI s).toNatClampNeg).toInt := lt_T.mp q
        rw [hd] at q
        refine And.intro (Or.inl rfl) (And.intro ⟨?_, fi, se, rfl⟩ rfl)
        rw [hbadH (decide_eq_false (by omega))]
      · have q : ¬ (1 : Int) < (fi (nI s).toNatClampNeg - se (nI s).toNatClampNeg).toInt := fun z => q (lt_T.mpr z)
        rw [hd] at q
        refine And.intro (fun q2 => ?_) (fun q2 => ?_)
        · have q2 : (-1 : Int) ≤ (fi (nI s).toNatClampNeg - se (nI s).toNatClampNeg).toInt := le_T.mp q2
          rw [hd] at q2
          refine ih (s + 1) (by omega) fi se hcnt (fun j hj => ?_) _ (nI_1 s)
          by_cases hjs : j = s
          · rw [hjs]
            exact decide_eq_true (by omega)
          · exact hall j (by omega)
        · have q2 : ¬ (-1 : Int) ≤ (fi (nI s).toNatClampNeg - se (nI s).toNatClampNeg).toInt := fun z => q2 (le_T.mpr z)
          rw [hd] at q2
          refine And.intro (Or.inl rfl) (And.intro ⟨?_, fi, se, rfl⟩ rfl)
          rw [hbadH (decide_eq_false (by omega))]
  -- the loop over the beads
  have loopB : ∀ (d k : Nat), k + d = n → ∀ (fi se : Nat → Int32), (∀ j, j < 4 → fi j = nI (nCnt bs (cbit X) j false k) ∧ se j = nI (nCnt bs (cbit X) j true k)) → ∀ t y : Int32, t = b2i (nPar (cbit X) (k - 1)) → y = nI k → K 31 [(0, .inr (40, 0)), (1, vI (nI X)), (2, vI t), (3, vI y)] [] (mnH th nk nt rm ln lg be fi se ro pl) := by
    intro d
    induction d with
    | zero =>
      intro k hk fi se hcnt t y ht hy
      have hk : k = n := hk
      subst hk; subst hy
      refine hK [(107, [0, 3])] 60 31 _ _ _ ?_
      refine And.intro (fun _ => ?_) (fun q => absurd (by show nk 0 ≤ nI k; rw [hb]; exact Int32.le_refl _) q)
      exact loopC 4 0 (by omega) fi se hcnt (fun j hj => absurd hj (Nat.not_lt_zero j)) 0 rfl
    | succ d ih =>
      intro k hk fi se hcnt t y ht hy
      subst hy
      have hsk := hs k (by omega)
      have hbk : be (nI k).toNatClampNeg = nI (bs k) := by rw [nI_clamp (by omega)]; exact hbe k (by omega)
      have at62 : ∀ t' : Int32, t' = b2i (nPar (cbit X) k) → K 62 [(0, .inr (40, 0)), (1, vI (nI X)), (2, vI t'), (3, vI (nI k))] [] (mnH th nk nt rm ln lg be fi se ro pl) := by
        intro t' ht'
        refine hK [(31, [0, 1, 2, 3])] 60 62 _ _ _ ?_
        have hcl : (nI (bs k)).toNatClampNeg = bs k := nI_clamp (by omega)
        refine And.intro (fun q => ?_) (fun q => ?_)
        · have hp : nPar (cbit X) k = false := b2i0 (by rw [← ht']; exact q)
          refine And.intro (vp_in_nI (by omega) (by omega)) ?_
          refine And.intro (by show vp_in (be (nI k).toNatClampNeg) 4; rw [hbk]; exact vp_in_nI (by omega) (by omega)) ?_
          refine And.intro (by show vp_in (be (nI k).toNatClampNeg) 4; rw [hbk]; exact vp_in_nI (by omega) (by omega)) ?_
          refine ih (k + 1) (by omega) _ se (fun j hj => ?_) t' _ (by rw [Nat.add_sub_cancel]; exact ht') (nI_1 k)
          obtain ⟨c1, c2⟩ := hcnt j hj
          rw [nCnt_succ, nCnt_succ, hp]
          show upd fi (be (nI k).toNatClampNeg).toNatClampNeg (fi (be (nI k).toNatClampNeg).toNatClampNeg + 1) j = _ ∧ _
          rw [hbk, hcl]
          by_cases hjb : bs k = j
          · subst hjb
            rw [pk_us, c1, nI_1, c2]
            simp
          · rw [pk_un (fun z => hjb z.symm), c1, c2, decide_eq_false hjb]
            simp
        · have hp : nPar (cbit X) k = true := b2i1 (by rw [← ht']; exact q)
          refine And.intro (vp_in_nI (by omega) (by omega)) ?_
          refine And.intro (by show vp_in (be (nI k).toNatClampNeg) 4; rw [hbk]; exact vp_in_nI (by omega) (by omega)) ?_
          refine And.intro (by show vp_in (be (nI k).toNatClampNeg) 4; rw [hbk]; exact vp_in_nI (by omega) (by omega)) ?_
          refine ih (k + 1) (by omega) fi _ (fun j hj => ?_) t' _ (by rw [Nat.add_sub_cancel]; exact ht') (nI_1 k)
          obtain ⟨c1, c2⟩ := hcnt j hj
          rw [nCnt_succ, nCnt_succ, hp]
          show _ ∧ upd se (be (nI k).toNatClampNeg).toNatClampNeg (se (be (nI k).toNatClampNeg).toNatClampNeg + 1) j = _
          rw [hbk, hcl]
          by_cases hjb : bs k = j
          · subst hjb
            rw [pk_us, c2, nI_1, c1]
            simp
          · rw [pk_un (fun z => hjb z.symm), c1, c2, decide_eq_false hjb]
            simp
      refine hK [(31, [0, 1, 2, 3]), (62, [0, 1, 2, 3])] 60 31 _ _ _ ?_
      refine And.intro (fun q => absurd q (by show ¬ nk 0 ≤ nI k; rw [hb]; exact nI_ge (by omega) (by omega))) (fun _ => ?_)
      refine And.intro (fun q => ?_) (fun q => ?_)
      · -- the first bead
        have hk0 : k = 0 := by
          apply Classical.byContradiction
          intro z
          exact nI_nle (by omega) (by omega) q
        subst hk0
        exact at62 t ht
      · obtain ⟨k', rfl⟩ : ∃ k', k = k' + 1 := ⟨k - 1, by
          have : k ≠ 0 := fun z => q (by subst z; exact Int32.le_refl _)
          omega⟩
        have hbit : (x_ib 3 (x_ib 7 (nI X) (nI (k' + 1))) 1) = nI (X / 2 ^ (k' + 1) % 2) := bit_shr hX (by omega)
        rw [Nat.add_sub_cancel] at ht
        refine And.intro (fun h3 => ?_) (fun h3 => ?_)
        · have h3 : ¬ nI (X / 2 ^ (k' + 1) % 2) = nI 1 := fun z => h3 (hbit.trans z)
          rw [nI_eq (by omega) (by omega)] at h3
          have hc : cbit X (k' + 1) = false := decide_eq_false h3
          refine at62 t ?_
          rw [ht, nPar_stepS, hc, Bool.xor_false]
        · have h3 : nI (X / 2 ^ (k' + 1) % 2) = nI 1 := hbit.symm.trans h3
          rw [nI_eq (by omega) (by omega)] at h3
          have hc : cbit X (k' + 1) = true := decide_eq_true h3
          refine And.intro (fun h4 => ?_) (fun h4 => ?_)
          · have hp : nPar (cbit X) k' = true := b2i1 (by rw [← ht]; exact h4)
            refine at62 0 ?_
            rw [nPar_stepS, hc, hp]
            rfl
          · have hp : nPar (cbit X) k' = false := b2i0 (by rw [← ht]; exact h4)
            refine at62 1 ?_
            rw [nPar_stepS, hc, hp]
            rfl
  -- clear
  have loopA : ∀ (d s : Nat), s + d = 4 → ∀ (fi se : Nat → Int32), (∀ j, j < s → fi j = 0 ∧ se j = 0) → ∀ y : Int32, y = nI s → K 2 [(0, .inr (40, 0)), (1, vI (nI X)), (2, vI y)] [] (mnH th nk nt rm ln lg be fi se ro pl) := by
    intro d
    induction d with
    | zero =>
      intro s hs4 fi se hz y hy
      have hs4 : s = 4 := hs4
      subst hs4; subst hy
      refine hK [(31, [0, 1, 2, 3])] 60 2 _ _ _ ?_
      refine And.intro (fun _ => ?_) (fun q => absurd (by decide) q)
      exact loopB n 0 (by omega) fi se (fun j hj => ⟨(hz j hj).1, (hz j hj).2⟩) 0 0 rfl rfl
    | succ d ih =>
      intro s hs4 fi se hz y hy
      subst hy
      refine hK [(2, [0, 1, 2])] 60 2 _ _ _ ?_
      refine And.intro (fun q => absurd q (by show ¬ nI 4 ≤ nI s; exact nI_ge (by omega) (by omega))) (fun _ => ?_)
      refine And.intro (vp_in_nI (by omega) (by omega)) (And.intro (vp_in_nI (by omega) (by omega)) ?_)
      refine ih (s + 1) (by omega) _ _ (fun j hj => ?_) _ (nI_1 s)
      rw [nI_clamp (by omega)]
      by_cases hjs : j = s
      · rw [hjs, pk_us, pk_us]
        exact ⟨rfl, rfl⟩
      · rw [pk_un hjs, pk_un hjs]
        exact hz j (by omega)
  refine hK [(2, [0, 1, 2])] 60 0 _ _ _ ?_
  exact loopA 4 0 (by omega) fi se (fun j hj => absurd hj (Nat.not_lt_zero j)) 0 rfl
