/-! ===== Net: goThrough, walkFrom ===== -/
set_option maxRecDepth 20000 in
theorem c_goThrough (l : Launch) (ma : Nat → Int32) (sz wk ob : Int32) (x y k t : Nat) (hk : k = 0 ∨ k = 1) (ht : t < 3) (hx : k = 0 → t = 0 → 1 ≤ x) (hy : k = 0 → t = 1 → 1 ≤ y) (v : Int32) (hv : v = nI t) : Ev l zX2_goThrough [.inr (6, 0), vI v] (ntH ma sz wk (nI x) (nI y) (nI k) ob) (fun r h' => r = none ∧ h' = ntH ma sz wk (nI (wGo x y k t).1) (nI (wGo x y k t).2.1) (nI (wGo x y k t).2.2.1) ob) := by
  subst hv
  have z0 : ∀ p : Nat, nI p + 0 = nI p := fun p => Int32.add_zero _
  have m1 : ∀ p : Nat, 1 ≤ p → nI p + (-1) = nI (p - 1) := fun p hp => sb_m1 (by omega)
  have n0 : ¬ (nI 1 : Int32) = 0 := by decide
  have n2 : ¬ (nI 2 : Int32) = 0 := by decide
  have n21 : ¬ (nI 2 : Int32) = 1 := by decide
  have n01 : ¬ (nI 0 : Int32) = 1 := by decide
  refine ev_run okX2_goThrough (by decide +kernel) (Nat.le_of_ble_eq_true rfl) 80 ?_
  rcases hk with rfl | rfl <;> rcases (by omega : t = 0 ∨ t = 1 ∨ t = 2) with rfl | rfl | rfl
  · refine And.intro (fun q => absurd rfl q) (fun _ => And.intro (fun q => absurd rfl q) (fun _ => And.intro (fun _ => And.intro (fun q => absurd rfl q) (fun _ => ?_)) (fun q => absurd q n01)))
    have e : ntH ma sz wk (nI x + (-1)) (nI y + 0) 1 ob = ntH ma sz wk (nI (wGo x y 0 0).1) (nI (wGo x y 0 0).2.1) (nI (wGo x y 0 0).2.2.1) ob := by
      obtain ⟨x', rfl⟩ : ∃ x', x = x' + 1 := ⟨x - 1, by have := hx rfl rfl; omega⟩
      rw [wGo_00, m1 (x' + 1) (by omega), z0]
      rfl
    exact And.intro ⟨rfl, e⟩ (show ([(6, 0), (7, 0)] : List (Nat × Nat)) = [(6, 0), (7, 0)] from rfl)
  · refine And.intro (fun q => absurd rfl q) (fun _ => And.intro (fun _ => And.intro (fun q => absurd rfl q) (fun _ => And.intro (fun q => absurd rfl q) (fun _ => ?_))) (fun q => absurd q n0))
    refine And.intro ⟨rfl, ?_⟩ rfl
    obtain ⟨y', rfl⟩ : ∃ y', y = y' + 1 := ⟨y - 1, by have := hy rfl rfl; omega⟩
    rw [wGo_01]
    show ntH ma sz wk (nI x + 0) (nI (y' + 1) + (-1)) 1 ob = _
    rw [m1 (y' + 1) (by omega), z0]
    rfl
  · refine And.intro (fun q => absurd rfl q) (fun _ => And.intro (fun _ => And.intro (fun _ => And.intro (fun q => absurd rfl q) (fun _ => ?_)) (fun q => absurd q n21)) (fun q => absurd q n2))
    refine And.intro ⟨rfl, ?_⟩ rfl
    rw [wGo_02]
    show ntH ma sz wk (nI x + 0) (nI y + 0) 1 ob = _
    rw [z0, z0]
    rfl
  · refine And.intro (fun _ => And.intro (fun q => absurd rfl q) (fun _ => And.intro (fun _ => And.intro (fun _ => ?_) (fun q => absurd q n0)) (fun q => absurd q n01))) (fun q => absurd q n0)
    refine And.intro ⟨rfl, ?_⟩ rfl
    rw [wGo_10]
    show ntH ma sz wk (nI x + 1) (nI y + 0) 0 ob = _
    rw [nI_1, z0]
    rfl
  · refine And.intro (fun _ => And.intro (fun _ => And.intro (fun q => absurd rfl q) (fun _ => And.intro (fun _ => ?_) (fun q => absurd q n0))) (fun q => absurd q n0)) (fun q => absurd q n0)
    refine And.intro ⟨rfl, ?_⟩ rfl
    rw [wGo_11]
    show ntH ma sz wk (nI x + 0) (nI y + 1) 0 ob = _
    rw [nI_1, z0]
    rfl
  · refine And.intro (fun _ => And.intro (fun _ => And.intro (fun _ => And.intro (fun _ => ?_) (fun q => absurd q n0)) (fun q => absurd q n21)) (fun q => absurd q n2)) (fun q => absurd q n0)
    refine And.intro ⟨rfl, ?_⟩ rfl
    rw [wGo_12]
    show ntH ma sz wk (nI x + 0) (nI y + 0) 0 ob = _
    rw [z0, z0]
    rfl
theorem c_walkFrom (l : Launch) (N : Nat) (mk : Nat → Nat → Nat) (w : Option wEnd) (h : xH) (hH : TH N mk w h) (k : Int32) : Ev l zX2_walkFrom [.inr (6, 0), vI k] h (fun r h' => (outD N mk k = false ∧ r = some (vI (-1)) ∧ TH N mk w h') ∨ (outD N mk k = true ∧ ∀ n e, wRes N mk k.toInt.toNat n e → r = some (vI (nI (n + 1))) ∧ TH N mk (some e) h')) := by
  obtain ⟨ma, sz, wk, ax, ay, ak, ob, rfl, hB, hW⟩ := hH
  obtain ⟨hN1, h20, hok, rfl, hma⟩ := id hB
  refine ev_all okX2_walkFrom (by decide +kernel) (Nat.le_of_ble_eq_true rfl) ?_
  intro K hK
  refine hK [(49, [0, 1, 2, 3, 4])] 60 0 _ _ _ ?_
  refine ⟨[6, 7], _, c_isOuter l N mk ma (nI N) wk ax ay ak ob hB k, fun r hc' hP _ => ?_⟩
  obtain ⟨rfl, rfl⟩ := hP
  refine And.intro (fun q => ?_) (fun q => ?_)
  · have hout := b2i1 q
    have hout2 := hout
    unfold outD at hout2
    rw [Bool.and_eq_true, decide_eq_true_eq] at hout2
    obtain ⟨d, hd, rfl, hdt⟩ := nI_arg (x := k) hout2.1.1
    have hdN : d < N := by have := hout2.1.2; omega
    have hdoor : tDoor mk d (N - 1 - d) 0 2 = true := by
      have := hout2.2
      rw [hdt] at this
      exact this
    obtain ⟨n, e, hR⟩ := walk_ends hok hdN hdoor
    have hR0 := hR
    obtain ⟨-, hw, hend, hnN⟩ := hR
    -- one answer
    have huniq : ∀ n' e', wRes N mk d n' e' → n' = n ∧ e' = e := by
      intro n' e' hR'
      obtain ⟨-, hw', hend', -⟩ := hR'
      have hn : n' = n := by
        rcases Nat.lt_trichotomy n' n with z | z | z
        · have := hw.2 n' z
          rw [hend'] at this
          cases this
        · exact z
        · have := hw'.2 n z
          rw [hend] at this
          cases this
      subst hn
      rw [hend] at hend'
      cases hend'
      exact ⟨rfl, rfl⟩
    refine And.intro (Or.inr rfl) ?_
    generalize hs : wSeq N mk (d, N - 1 - d, 0, 2) = s at hw hend
    have hNN : N * N ≤ 400 := Nat.mul_le_mul h20 h20
    have loop : ∀ (f i : Nat), i + f = n → ∀ S G T : Int32, S = nI (s i).2.2.2 → G = nI (i + 1) → T = nI i → K 49 [(0, .inr (6, 0)), (1, vI (nI d)), (2, vI S), (3, vI G), (4, vI T)] [] (ntH ma (nI N) 1 (nI (s i).1) (nI (s i).2.1) (nI (s i).2.2.1) (-1)) := by
      intro f
      induction f with
      | zero =>
        intro i hi S G T hS hG hT
        have hi : i = n := hi
        subst hi; subst hS; subst hG; subst hT
        have oi := isWalk_ok hok hw i (Nat.le_refl i)
        have hfin : ∀ (h' : xH), TH N mk (some e) h' → (fun (r : Option xV) (h' : xH) => (outD N mk (nI d) = false ∧ r = some (vI (-1)) ∧ TH N mk w h') ∨ (outD N mk (nI d) = true ∧ ∀ n e, wRes N mk (nI d).toInt.toNat n e → r = some (vI (nI (n + 1))) ∧ TH N mk (some e) h')) (some (vI (nI (i + 1)))) h' := by
          intro h' hTH
          refine Or.inr ⟨hout, fun n' e' hR' => ?_⟩
          rw [hdt] at hR'
          obtain ⟨rfl, rfl⟩ := huniq n' e' hR'
          exact ⟨rfl, hTH⟩
        refine hK [] 60 49 _ _ _ ?_
        refine And.intro (fun z => absurd (show nI N * nI N ≤ nI i from z) (by rw [pk_mul]; exact nI_ge (by omega) (by omega))) (fun _ => ?_)
        refine ⟨[6, 7], _, c_other l N mk ma (nI N) 1 (-1) hB (s i).1 (s i).2.1 (s i).2.2.1 (s i).2.2.2 oi.1 oi.2.1 _ rfl, fun r hc' hP _ => ?_⟩
        obtain ⟨rfl, rfl⟩ := hP
        unfold wStep at hend
        cases ho : oth mk (s i).1 (s i).2.1 (s i).2.2.1 (s i).2.2.2 with
        | none =>
          simp only [ho] at hend
          cases hend
          refine And.intro (fun z => absurd rfl z) (fun _ => ?_)
          exact And.intro (hfin _ ⟨ma, nI N, 1, _, _, _, -1, rfl, hB, rfl, rfl, rfl, rfl, rfl⟩) rfl
        | some t =>
          simp only [ho] at hend
          by_cases hc : (s i).2.2.1 = 0 ∧ t = 2 ∧ (s i).1 + (s i).2.1 + 1 = N
          · rw [if_pos hc] at hend
            cases hend
            obtain ⟨c1, c2, c3⟩ := hc
            subst c2
            refine And.intro (fun _ => ?_) (fun z => absurd z (by decide))
            refine And.intro (fun z => absurd (by rw [c1]; rfl) z) (fun _ => ?_)
            refine And.intro (fun z => absurd rfl z) (fun _ => ?_)
            refine And.intro (fun z => absurd (show nI (s i).1 + nI (s i).2.1 = nI N - 1 by rw [nI_add, show (1 : Int32) = nI 1 from rfl, pk_sub (by omega)]; congr 1; omega) z) (fun _ => ?_)
            exact And.intro (hfin _ ⟨ma, nI N, 1, _, _, _, nI (s i).1, rfl, hB, rfl, rfl, rfl, rfl, rfl⟩) rfl
          · rw [if_neg hc] at hend
            cases hend
      | succ f ih =>
        intro i hi S G T hS hG hT
        subst hS; subst hG; subst hT
        have oi := isWalk_ok hok hw i (by omega)
        have hst := hw.2 i (by omega)
        unfold wStep at hst
        refine hK [(49, [0, 1, 2, 3, 4]), (116, [0, 1, 2, 3, 4])] 60 49 _ _ _ ?_
        refine And.intro (fun z => absurd (show nI N * nI N ≤ nI i from z) (by rw [pk_mul]; exact nI_ge (by omega) (by omega))) (fun _ => ?_)
        refine ⟨[6, 7], _, c_other l N mk ma (nI N) 1 (-1) hB (s i).1 (s i).2.1 (s i).2.2.1 (s i).2.2.2 oi.1 oi.2.1 _ rfl, fun r hc' hP _ => ?_⟩
        obtain ⟨rfl, rfl⟩ := hP
        cases ho : oth mk (s i).1 (s i).2.1 (s i).2.2.1 (s i).2.2.2 with
        | none =>
          simp only [ho] at hst
          cases hst
        | some t =>
          simp only [ho] at hst
          by_cases hc : (s i).2.2.1 = 0 ∧ t = 2 ∧ (s i).1 + (s i).2.1 + 1 = N
          · rw [if_pos hc] at hst
            cases hst
          · rw [if_neg hc] at hst
            have hst : wGo (s i).1 (s i).2.1 (s i).2.2.1 t = s (i + 1) := Sum.inr.inj hst
            obtain ⟨t3, tne, td⟩ := oth_door hok oi.1 oi.2.1 oi.2.2 ho
            have hk01 : (s i).2.2.1 = 0 ∨ (s i).2.2.1 = 1 := by
              rcases oi.1 with ⟨q, _⟩ | ⟨q, _⟩
              · exact Or.inl q
              · exact Or.inr q
            have hbd : (s i).1 + (s i).2.1 + 1 ≤ N := by rcases oi.1 with ⟨_, q⟩ | ⟨_, q⟩ <;> omega
            have hx1 : (s i).2.2.1 = 0 → t = 0 → 1 ≤ (s i).1 := by
              intro k0 t0
              rw [k0, t0] at td
              have td : dr (mk (s i).1 ((s i).2.1 + 1)) (mk (s i).1 (s i).2.1) = true := td
              rw [dr_iff] at td
              have a1 := (hok (s i).1 ((s i).2.1 + 1) (by omega)).2.1
              have a2 := (hok (s i).1 (s i).2.1 (by omega)).2.1
              omega
            have hy1 : (s i).2.2.1 = 0 → t = 1 → 1 ≤ (s i).2.1 := by
              intro k0 t0
              rw [k0, t0] at td
              have td : dr (mk (s i).1 (s i).2.1) (mk ((s i).1 + 1) (s i).2.1) = true := td
              rw [dr_iff] at td
              have a1 := (hok (s i).1 (s i).2.1 (by omega)).2.2.1
              have a2 := (hok ((s i).1 + 1) (s i).2.1 (by omega)).2.2.1
              omega
            have ht' : (s (i + 1)).2.2.2 = t := by rw [← hst]; rfl
            have at116 : K 116 [(0, .inr (6, 0)), (1, vI (nI d)), (2, vI (nI t)), (3, vI (nI (i + 1))), (4, vI (nI i))] [] (ntH ma (nI N) 1 (nI (s i).1) (nI (s i).2.1) (nI (s i).2.2.1) (-1)) := by
              refine hK [(49, [0, 1, 2, 3, 4])] 60 116 _ _ _ ?_
              refine ⟨[6, 7], _, c_goThrough l ma (nI N) 1 (-1) (s i).1 (s i).2.1 (s i).2.2.1 t hk01 t3 hx1 hy1 _ rfl, fun r hc' hP _ => ?_⟩
              obtain ⟨rfl, rfl⟩ := hP
              rw [hst]
              exact ih (i + 1) (by omega) _ _ _ (by rw [ht']) (nI_1 (i + 1)) (nI_1 i)
            have hne : ¬ nI t = -1 := by
              intro z
              have z2 := congrArg Int32.toInt z
              rw [nI_toInt (by omega), show (-1 : Int32).toInt = -1 by decide] at z2
              omega
            refine And.intro (fun _ => ?_) (fun z => absurd z hne)
            refine And.intro (fun _ => at116) (fun zk => ?_)
            refine And.intro (fun _ => at116) (fun zt => ?_)
            refine And.intro (fun _ => at116) (fun zo => ?_)
            exfalso
            apply hc
            refine ⟨(nI_eq (a := (s i).2.2.1) (b := 0) (by omega) (by omega)).mp zk, (nI_eq (a := t) (b := 2) (by omega) (by omega)).mp zt, ?_⟩
            have zo : nI (s i).1 + nI (s i).2.1 = nI N - 1 := zo
            rw [nI_add, show (1 : Int32) = nI 1 from rfl, pk_sub (by omega), nI_eq (by omega) (by omega)] at zo
            omega
    have h0 : s 0 = (d, N - 1 - d, 0, 2) := by rw [← hs]; rfl
    have hy : nI N - 1 - nI d = nI (N - 1 - d) := by rw [show (1 : Int32) = nI 1 from rfl, pk_sub (by omega), pk_sub (by omega)]
    have g := loop n 0 (by omega) 2 1 0 (by rw [h0]; rfl) rfl rfl
    rw [h0] at g
    have g : K 49 [(0, .inr (6, 0)), (1, vI (nI d)), (2, vI 2), (3, vI 1), (4, vI 0)] [] (ntH ma (nI N) 1 (nI d) (nI (N - 1 - d)) 0 (-1)) := g
    rw [← hy] at g
    exact g
  · refine And.intro (Or.inl ⟨b2i0 q, rfl, ma, nI N, wk, ax, ay, ak, ob, rfl, hB, hW⟩) rfl
