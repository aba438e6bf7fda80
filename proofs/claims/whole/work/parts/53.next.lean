/-! ===== Rooms: the next sharing ===== -/
theorem c_sumTrial (l : Launch) (n : Nat) (hn : n ≤ 5) (W : Nat → Nat → Nat) (M : Nat → Nat → Int32) (hM : ∀ i j, i < n → j < n → M i j = nI (W i j)) (t : Nat → Nat) (ta : Nat → Int32) (ht : ∀ k, k < n → t k < n ∧ ta k = nI (t k)) (re gr se : Int32) : Ev l zX3_sumOfTrial [.inr (8, 0)] [rmO (nI n) re gr se, gA 9 5 5 M, iA 10 5 ta] (fun r h' => r = some (vI (nI (sm (fun k => W k (t k)) n))) ∧ h' = [rmO (nI n) re gr se, gA 9 5 5 M, iA 10 5 ta]) := by
  refine ev_all okX3_sumOfTrial (by decide +kernel) (Nat.le_of_ble_eq_true rfl) ?_
  intro K hK
  have loop : ∀ (e k : Nat), k + e = n → ∀ S X : Int32, S = nI (sm (fun k => W k (t k)) k) → X = nI k → K 4 [(0, .inr (8, 0)), (1, vI S), (2, vI X)] [] [rmO (nI n) re gr se, gA 9 5 5 M, iA 10 5 ta] := by
    intro e
    induction e with
    | zero =>
      intro k hk S X hS hX
      have hk : k = n := hk
      subst hk; subst hX; subst hS
      refine hK [] 60 4 _ _ _ ?_
      refine And.intro (fun _ => ?_) (fun z => absurd (Int32.le_refl _) z)
      exact And.intro ⟨rfl, rfl⟩ rfl
    | succ e ih =>
      intro k hk S X hS hX
      subst hX; subst hS
      have ck : (nI k).toNatClampNeg = k := nI_clamp (by omega)
      obtain ⟨t1, t2⟩ := ht k (by omega)
      have ct : (ta (nI k).toNatClampNeg) = nI (t k) := by rw [ck]; exact t2
      refine hK [(4, [0, 1, 2])] 60 4 _ _ _ ?_
      refine And.intro (fun z => absurd z (nI_ge (by omega) (by omega))) (fun _ => ?_)
      refine And.intro (vp_in_nI (by omega) (by omega)) (And.intro (vp_in_nI (by omega) (by omega)) (And.intro (by rw [ck]; omega) (And.intro (by rw [ct]; exact vp_in_nI (by omega) (by omega)) ?_)))
      refine ih (k + 1) (by omega) _ _ ?_ (nI_1 k)
      show nI (sm (fun k => W k (t k)) k) + M (nI k).toNatClampNeg (ta (nI k).toNatClampNeg).toNatClampNeg = _
      rw [ct, ck, nI_clamp (by omega), hM k (t k) (by omega) t1, nI_add]
      rfl
  refine hK [(4, [0, 1, 2])] 60 0 _ _ _ ?_
  exact loop n 0 (by omega) 0 0 rfl rfl
theorem c_swap (l : Launch) (ct re gr se : Int32) (ta : Nat → Int32) (a b : Nat) (ha : a < 5) (hb : b < 5) (x y : Int32) (hx : x = nI a) (hy : y = nI b) : Ev l zX3_swapTrial [.inr (8, 0), vI x, vI y] [rmO ct re gr se, iA 10 5 ta] (fun r h' => r = none ∧ h' = [rmO ct re gr se, iA 10 5 (upd (upd ta a (ta b)) b (ta a))]) := by
  subst hx; subst hy
  have ca : (nI a).toNatClampNeg = a := nI_clamp (by omega)
  have cb : (nI b).toNatClampNeg = b := nI_clamp (by omega)
  refine ev_run okX3_swapTrial (by decide +kernel) (Nat.le_of_ble_eq_true rfl) 60 ?_
  refine And.intro (vp_in_nI (by omega) (by omega)) (And.intro (vp_in_nI (by omega) (by omega)) (And.intro (vp_in_nI (by omega) (by omega)) (And.intro (vp_in_nI (by omega) (by omega)) (And.intro ⟨rfl, ?_⟩ rfl))))
  show [rmO ct re gr se, iA 10 5 (upd (upd ta (nI a).toNatClampNeg (ta (nI b).toNatClampNeg)) (nI b).toNatClampNeg (ta (nI a).toNatClampNeg))] = _
  rw [ca, cb]
theorem swp_ok {n : Nat} {t : Nat → Nat} {ta : Nat → Int32} (ht : ∀ k, k < n → t k < n ∧ ta k = nI (t k)) {a b : Nat} (ha : a < n) (hb : b < n) : ∀ k, k < n → swp t a b k < n ∧ (upd (upd ta a (ta b)) b (ta a)) k = nI (swp t a b k) := by
  intro k hk
  unfold swp
  by_cases e : k = b
  · subst e
    rw [if_pos rfl, pk_us]
    exact ht a ha
  · rw [if_neg e, pk_un e]
    by_cases e2 : k = a
    · subst e2
      rw [if_pos rfl, pk_us]
      exact ht b hb
    · rw [if_neg e2, pk_un e2]
      exact ht k hk
theorem fG_le (t : Nat → Nat) (q : Nat) : ∀ g : Nat, fG t q g ≤ g
  | 0 => Nat.le_refl 0
  | g + 1 => by
    unfold fG
    have := fG_le t q g
    split
    · omega
    · split <;> omega
theorem tm_2 : ∀ n : Nat, n < 6 → 1 ≤ n → nI n - 2 = nI (n - 1) - 1 := by decide +kernel
theorem tm_m : ∀ m : Nat, m < 6 → nI (m + 1) - 1 = nI m ∧ nI m + (-1) = nI m - 1 := by decide +kernel
theorem c_nextTrial (l : Launch) (n : Nat) (hn1 : 1 ≤ n) (hn : n ≤ 5) (t : Nat → Nat) (ta : Nat → Int32) (ht : ∀ k, k < n → t k < n ∧ ta k = nI (t k)) (re gr se : Int32) : Ev l zX3_nextTrial [.inr (8, 0)] [rmO (nI n) re gr se, iA 10 5 ta] (fun r h' => (nxP n t = none ∧ r = some (vI 0) ∧ ∃ ta', h' = [rmO (nI n) re gr se, iA 10 5 ta']) ∨ (∃ t', nxP n t = some t' ∧ r = some (vI 1) ∧ ∃ ta', (∀ k, k < n → t' k < n ∧ ta' k = nI (t' k)) ∧ h' = [rmO (nI n) re gr se, iA 10 5 ta'])) := by
  refine ev_all okX3_nextTrial (by decide +kernel) (Nat.le_of_ble_eq_true rfl) ?_
  intro K hK
  -- the rest is turned round
  have at91 : ∀ (q : Nat) (X G : Int32), fT t (n - 1) = q + 1 → ∀ (f : Nat) (tr : Nat → Nat) (tb : Nat → Int32), (∀ k, k < n → tr k < n ∧ tb k = nI (tr k)) → ∀ lo hi : Nat, hi < n → hi ≤ lo + f → fR 5 (swp t q (fG t q (n - 1))) (q + 1) (n - 1) = fR f tr lo hi → lo < 10 → ∀ A B : Int32, A = nI lo → B = nI hi → K 91 [(0, .inr (8, 0)), (1, vI X), (2, vI G), (3, vI A), (4, vI B)] [] [rmO (nI n) re gr se, iA 10 5 tb] := by
    intro q X G hq f
    have fin : ∀ (tr : Nat → Nat) (tb : Nat → Int32), (∀ k, k < n → tr k < n ∧ tb k = nI (tr k)) → fR 5 (swp t q (fG t q (n - 1))) (q + 1) (n - 1) = tr → ((nxP n t = none ∧ some (vI 1) = some (vI 0) ∧ ∃ ta', [rmO (nI n) re gr se, iA 10 5 tb] = [rmO (nI n) re gr se, iA 10 5 ta']) ∨ (∃ t', nxP n t = some t' ∧ some (vI 1) = some (vI 1) ∧ ∃ ta', (∀ k, k < n → t' k < n ∧ ta' k = nI (t' k)) ∧ [rmO (nI n) re gr se, iA 10 5 tb] = [rmO (nI n) re gr se, iA 10 5 ta'])) := by
      intro tr tb htb e
      refine Or.inr ⟨tr, ?_, rfl, tb, htb, rfl⟩
      unfold nxP
      rw [hq]
      show some (fR 5 (swp t q (fG t q (n - 1))) (q + 1) (n - 1)) = some tr
      rw [e]
    induction f with
    | zero =>
      intro tr tb htb lo hi hhi hf e hlo A B hA hB
      subst hA; subst hB
      refine hK [] 60 91 _ _ _ ?_
      refine And.intro (fun _ => ?_) (fun z => absurd (nI_le (by omega) (by omega)) z)
      exact And.intro (Or.inr rfl) (And.intro (fin tr tb htb e) rfl)
    | succ f ih =>
      intro tr tb htb lo hi hhi hf e hlo A B hA hB
      subst hA; subst hB
      unfold fR at e
      refine hK [(91, [0, 1, 2, 3, 4])] 60 91 _ _ _ ?_
      refine And.intro (fun z => ?_) (fun z => ?_)
      · have z : nI hi ≤ nI lo := z
        rw [nI_leI (by omega) (by omega)] at z
        rw [if_pos z] at e
        exact And.intro (Or.inr rfl) (And.intro (fin tr tb htb e) rfl)
      · have z : ¬ nI hi ≤ nI lo := z
        rw [nI_leI (by omega) (by omega)] at z
        rw [if_neg z] at e
        refine ⟨[8, 10], _, c_swap l (nI n) re gr se tb lo hi (by omega) (by omega) _ _ rfl rfl, fun r hc' hP _ => ?_⟩
        obtain ⟨rfl, rfl⟩ := hP
        exact ih (swp tr lo hi) _ (swp_ok htb (by omega) (by omega)) (lo + 1) (hi - 1) (by omega) (by omega) e (by omega) _ _ (nI_1 lo) (sb_m1 (by omega))
  have at73 : ∀ (q g : Nat), fT t (n - 1) = q + 1 → q < n → fG t q (n - 1) = g → K 73 [(0, .inr (8, 0)), (1, vI (nI q)), (2, vI (nI g))] [] [rmO (nI n) re gr se, iA 10 5 ta] := by
    intro q g hq hqn hg
    have hgn : g < n := by have := fG_le t q (n - 1); omega
    refine hK [(91, [0, 1, 2, 3, 4])] 60 73 _ _ _ ?_
    refine ⟨[8, 10], _, c_swap l (nI n) re gr se ta q g (by omega) (by omega) _ _ rfl rfl, fun r hc' hP _ => ?_⟩
    obtain ⟨rfl, rfl⟩ := hP
    exact at91 q _ _ hq 5 (swp t q g) _ (swp_ok ht hqn hgn) (q + 1) (n - 1) (by omega) (by omega) (by rw [hg]) (by omega) _ _ (nI_1 q) (pk_sub (b := 1) (by omega))
  have at47 : ∀ (q : Nat), fT t (n - 1) = q + 1 → q < n → ∀ g : Nat, g < n → fG t q (n - 1) = fG t q g → ∀ G : Int32, G = nI g → K 47 [(0, .inr (8, 0)), (1, vI (nI q)), (2, vI G)] [] [rmO (nI n) re gr se, iA 10 5 ta] := by
    intro q hq hqn g
    induction g with
    | zero =>
      intro hg e G hG
      subst hG
      refine hK [(73, [0, 1, 2])] 60 47 _ _ _ ?_
      refine And.intro (fun _ => at73 q 0 hq hqn e) (fun z => absurd (show nI 0 ≤ nI q from nI_le (by omega) (by omega)) z)
    | succ g ih =>
      intro hg e G hG
      subst hG
      rw [show fG t q (g + 1) = if g + 1 ≤ q then g + 1 else if t q ≤ t (g + 1) then g + 1 else fG t q g from rfl] at e
      have cg : (nI (g + 1)).toNatClampNeg = g + 1 := nI_clamp (by omega)
      have cq : (nI q).toNatClampNeg = q := nI_clamp (by omega)
      refine hK [(73, [0, 1, 2]), (47, [0, 1, 2])] 60 47 _ _ _ ?_
      refine And.intro (fun z => ?_) (fun z => ?_)
      · have z : nI (g + 1) ≤ nI q := z
        rw [nI_leI (by omega) (by omega)] at z
        rw [if_pos z] at e
        exact at73 q (g + 1) hq hqn e
      · have z : ¬ nI (g + 1) ≤ nI q := z
        rw [nI_leI (by omega) (by omega)] at z
        rw [if_neg z] at e
        refine And.intro (vp_in_nI (by omega) (by omega)) (And.intro (vp_in_nI (by omega) (by omega)) ?_)
        have t1 := ht q hqn
        have t2 := ht (g + 1) hg
        have cmp : (ta (nI q).toNatClampNeg ≤ ta (nI (g + 1)).toNatClampNeg) ↔ t q ≤ t (g + 1) := by
          rw [cq, cg, t1.2, t2.2, nI_leI (by omega) (by omega)]
        refine And.intro (fun v => ?_) (fun v => ?_)
        · have v := cmp.mp v
          rw [if_pos v] at e
          exact at73 q (g + 1) hq hqn e
        · have v : ¬ t q ≤ t (g + 1) := fun u => v (cmp.mpr u)
          rw [if_neg v] at e
          exact ih (by omega) e _ (sb_m1 (by omega))
  have at34 : ∀ (q : Nat), fT t (n - 1) = q + 1 → q < n → K 34 [(0, .inr (8, 0)), (1, vI (nI q))] [] [rmO (nI n) re gr se, iA 10 5 ta] := by
    intro q hq hqn
    refine hK [(47, [0, 1, 2])] 60 34 _ _ _ ?_
    refine And.intro (fun _ => at47 q hq hqn (n - 1) (by omega) rfl _ (pk_sub (b := 1) (by omega))) (fun z => absurd (show nI 0 ≤ nI q from nI_le (by omega) (by omega)) z)
  have at7 : ∀ m : Nat, m ≤ n - 1 → fT t (n - 1) = fT t m → ∀ X : Int32, X = nI m - 1 → K 7 [(0, .inr (8, 0)), (1, vI X)] [] [rmO (nI n) re gr se, iA 10 5 ta] := by
    intro m
    induction m with
    | zero =>
      intro hm e X hX
      have e : fT t (n - 1) = 0 := e
      subst hX
      refine hK [] 60 7 _ _ _ ?_
      refine And.intro (fun _ => ?_) (fun z => absurd (show nI 0 - 1 < 0 by decide) z)
      refine And.intro (fun z => absurd (show (0 : Int32) ≤ nI 0 - 1 from z) (by decide)) (fun _ => ?_)
      refine And.intro (Or.inl rfl) (And.intro (Or.inl ⟨?_, rfl, ta, rfl⟩) rfl)
      unfold nxP
      rw [e]
    | succ m ih =>
      intro hm e X hX
      rw [(tm_m m (by omega)).1] at hX
      subst hX
      rw [show fT t (m + 1) = if t m ≤ t (m + 1) then m + 1 else fT t m from rfl] at e
      have cm : (nI m).toNatClampNeg = m := nI_clamp (by omega)
      have cm1 : (nI m + 1).toNatClampNeg = m + 1 := by rw [nI_1]; exact nI_clamp (by omega)
      have t1 := ht m (by omega)
      have t2 := ht (m + 1) (by omega)
      have cmp : (ta (nI m).toNatClampNeg ≤ ta (nI m + 1).toNatClampNeg) ↔ t m ≤ t (m + 1) := by
        rw [cm, cm1, t1.2, t2.2, nI_leI (by omega) (by omega)]
      refine hK [(34, [0, 1]), (7, [0, 1])] 60 7 _ _ _ ?_
      refine And.intro (fun z => absurd (show nI m < nI 0 from z) (nI_nlt (by omega) (by omega))) (fun _ => ?_)
      refine And.intro (vp_in_nI (by omega) (by omega)) (And.intro (by show vp_in (nI m + 1) 5; rw [nI_1]; exact vp_in_nI (by omega) (by omega)) ?_)
      refine And.intro (fun v => ?_) (fun v => ?_)
      · have v := cmp.mp v
        rw [if_pos v] at e
        exact at34 m e (by omega)
      · have v : ¬ t m ≤ t (m + 1) := fun u => v (cmp.mpr u)
        rw [if_neg v] at e
        exact ih (by omega) e _ (tm_m m (by omega)).2
  refine hK [(7, [0, 1])] 60 0 _ _ _ ?_
  exact at7 (n - 1) (Nat.le_refl _) rfl _ (tm_2 n (by omega) hn1)
