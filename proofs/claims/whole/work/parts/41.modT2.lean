/-! ===== the reference: puts, net, isAll ===== -/
theorem idx21b_inj {a b x y : Nat} (h1 : a ≤ 20) (h2 : x ≤ 20) (e : 21 * b + a = 21 * y + x) : a = x ∧ b = y := by omega
theorem m_puts (l : Launch) (N : Nat) (hN1 : 1 ≤ N) (hN : N ≤ 20) (th : Int32) (nk nt rm : Nat → Int32) (ln : Int32) (lg : Nat → Int64) (ma : Nat → Int32) (v : Int32) (hv : v = nI N) : Ev l zX5_puts [.inr (40, 0), vI v] (mtH th nk nt rm ln lg ma) (fun r h' => r = none ∧ ∃ ma' : Nat → Int32, (∀ x y, x + y ≤ N → ma' (21 * y + x) = nI (mk0 x y)) ∧ h' = mtH th nk (upd (upd nt 0 (nI N)) 4 0) rm ln lg ma') := by
  subst hv
  refine ev_all okX5_puts (by decide +kernel) (Nat.le_of_ble_eq_true rfl) ?_
  intro K hK
  have outer : ∀ (d y : Nat), y + d = N + 1 → ∀ (ma : Nat → Int32), (∀ a b, b < y → a + b ≤ N → ma (21 * b + a) = nI (mk0 a b)) → ∀ Y : Int32, Y = nI y → K 12 [(0, .inr (40, 0)), (1, vI (nI N)), (2, vI Y)] [] (mtH th nk (upd (upd nt 0 (nI N)) 4 0) rm ln lg ma) := by
    intro d
    induction d with
    | zero =>
      intro y hy ma hma Y hY
      subst hY
      refine hK [] 40 12 _ _ _ ?_
      refine And.intro (fun _ => ?_) (fun z => absurd (nI_lt (by omega) (by omega)) z)
      exact And.intro ⟨rfl, ma, fun a b hab => hma a b (by omega) hab, rfl⟩ rfl
    | succ d ih =>
      intro y hy ma hma Y hY
      subst hY
      have inner : ∀ (e x : Nat), x + y + e = N + 1 → ∀ (ma : Nat → Int32), (∀ a b, b < y ∨ (b = y ∧ a < x) → a + b ≤ N → ma (21 * b + a) = nI (mk0 a b)) → ∀ X : Int32, X = nI x → K 19 [(0, .inr (40, 0)), (1, vI (nI N)), (2, vI (nI y)), (3, vI X)] [] (mtH th nk (upd (upd nt 0 (nI N)) 4 0) rm ln lg ma) := by
        intro e
        induction e with
        | zero =>
          intro x hx ma hma X hX
          subst hX
          refine hK [(12, [0, 1, 2])] 40 19 _ _ _ ?_
          refine And.intro (fun _ => ?_) (fun z => absurd (by show nI N < nI x + nI y; rw [nI_add]; exact nI_lt (by omega) (by omega)) z)
          exact ih (y + 1) (by omega) ma (fun a b ha hab => hma a b (by omega) hab) _ (nI_1 y)
        | succ e ihe =>
          intro x hx ma hma X hX
          subst hX
          have hxy : x + y ≤ N := by omega
          obtain ⟨i1, i2, i3⟩ := idx21b hxy hN
          have step : ∀ v : Int32, v = nI (mk0 x y) → K 19 [(0, .inr (40, 0)), (1, vI (nI N)), (2, vI (nI y)), (3, vI (nI x + 1))] [] (mtH th nk (upd (upd nt 0 (nI N)) 4 0) rm ln lg (upd ma (21 * nI y + nI x).toNatClampNeg v)) := by
            intro v hv
            refine ihe (x + 1) (by omega) _ (fun a b hab2 hab => ?_) _ (nI_1 x)
            rw [i1, i2]
            by_cases eab : a = x ∧ b = y
            · rw [eab.1, eab.2, pk_us]; exact hv
            · rw [pk_un (fun w => eab (idx21b_inj (by omega) (by omega) w))]
              exact hma a b (by omega) hab
          refine hK [(19, [0, 1, 2, 3])] 40 19 _ _ _ ?_
          refine And.intro (fun z => absurd z (by show ¬ nI N < nI x + nI y; rw [nI_add]; exact nI_nlt (by omega) (by omega))) (fun _ => ?_)
          have hin : vp_in (21 * nI y + nI x) 441 := by rw [i1]; exact i3
          refine And.intro (fun hx0 => ?_) (fun hx0 => ?_)
          · have hx0 : nI x ≤ nI 0 := hx0
            rw [nI_leI (by omega) (by omega)] at hx0
            refine And.intro (fun hy0 => ?_) (fun hy0 => ?_)
            · have hy0 : nI y ≤ nI 0 := hy0
              rw [nI_leI (by omega) (by omega)] at hy0
              refine And.intro hin (step 2 ?_)
              unfold mk0
              rw [if_neg (by omega), if_neg (by omega)]
              rfl
            · have hy0 : ¬ nI y ≤ nI 0 := hy0
              rw [nI_leI (by omega) (by omega)] at hy0
              refine And.intro hin (step 1 ?_)
              unfold mk0
              rw [if_neg (by omega), if_pos (by omega)]
              rfl
          · have hx0 : ¬ nI x ≤ nI 0 := hx0
            rw [nI_leI (by omega) (by omega)] at hx0
            refine And.intro hin (step 0 ?_)
            unfold mk0
            rw [if_pos (by omega)]
            rfl
      refine hK [(19, [0, 1, 2, 3])] 40 12 _ _ _ ?_
      refine And.intro (fun z => absurd z (nI_nlt (by omega) (by omega))) (fun _ => ?_)
      exact inner (N + 1 - y) 0 (by omega) ma (fun a b hab2 hab => hma a b (by omega) hab) 0 rfl
  refine hK [(12, [0, 1, 2])] 40 0 _ _ _ ?_
  refine And.intro (Or.inl rfl) ?_
  exact outer (N + 1) 0 (by omega) ma (fun a b ha => absurd ha (Nat.not_lt_zero b)) 0 rfl
theorem m_net (l : Launch) (N : Nat) (mk : Nat → Nat → Nat) (w : Option wEnd) (nk rm : Nat → Int32) (ln : Int32) (lg : Nat → Int64) (h : xH) (hH : MT N mk w nk rm ln lg h) (k : Int32) : Ev l zX5_net [.inr (40, 0), vI k] h (fun r h' => r = some (vI (b2i (okNet k))) ∧ MT (nNet N k) (sNet mk k) (wNet w k) nk rm ln lg h') := by
  obtain ⟨th, nt, ma, rfl, hB, hW⟩ := hH
  have hbad : okNet k = false → MT (nNet N k) (sNet mk k) (wNet w k) nk rm ln lg (mtH 0 nk nt rm ln lg ma) := fun q => by
    have e1 : nNet N k = N := by unfold nNet; rw [q]; rfl
    have e2 : sNet mk k = mk := by unfold sNet; rw [q]; rfl
    have e3 : wNet w k = w := by unfold wNet; rw [q]; rfl
    rw [e1, e2, e3]
    exact ⟨0, nt, ma, rfl, hB, hW⟩
  refine ev_run okX5_net (by decide +kernel) (Nat.le_of_ble_eq_true rfl) 60 ?_
  refine And.intro (fun h1 => ?_) (fun h1 => And.intro (fun h2 => ?_) (fun h2 => ?_))
  · have h1 : k.toInt < 1 := lt_T.mp h1
    have e : okNet k = false := decide_eq_false (by omega)
    exact And.intro (Or.inl rfl) (And.intro ⟨by rw [e]; rfl, hbad e⟩ rfl)
  · have h1 : ¬ k.toInt < 1 := fun q => h1 (lt_T.mpr q)
    have h2 : k.toInt ≤ 20 := le_T.mp h2
    have e : okNet k = true := decide_eq_true (by omega)
    obtain ⟨j, hj, rfl, hjt⟩ := nI_arg (x := k) (by omega)
    refine ⟨[40, 46], _, m_puts l j (by omega) (by omega) 0 nk nt rm ln lg ma _ rfl, fun r hc' hP _ => ?_⟩
    obtain ⟨rfl, ma', hma', rfl⟩ := hP
    refine And.intro (Or.inr rfl) (And.intro ⟨by rw [e]; rfl, ?_⟩ rfl)
    have e1 : nNet N (nI j) = j := by unfold nNet; rw [e, if_pos rfl, hjt]; rfl
    have e2 : sNet mk (nI j) = mk0 := by unfold sNet; rw [e]; rfl
    have e3 : wNet w (nI j) = none := by unfold wNet; rw [e]; rfl
    rw [e1, e2, e3]
    exact ⟨0, _, ma', rfl, ⟨by omega, by omega, mk0_ok (by omega), by rw [pk_un (by omega), pk_us], hma'⟩, pk_us⟩
  · have h2 : ¬ k.toInt ≤ 20 := fun q => h2 (le_T.mpr q)
    have e : okNet k = false := decide_eq_false (by omega)
    exact And.intro (Or.inl rfl) (And.intro ⟨by rw [e]; rfl, hbad e⟩ rfl)
