/-! ===== Rooms: findPrices, settle, and what is asked ===== -/
theorem smZ_rng {f : Nat → Int} {a b : Int} : ∀ {n : Nat}, (∀ i, i < n → a ≤ f i ∧ f i ≤ b) → (n : Int) * a ≤ smZ f n ∧ smZ f n ≤ (n : Int) * b
  | 0, _ => by
    show ((0 : Nat) : Int) * a ≤ 0 ∧ 0 ≤ ((0 : Nat) : Int) * b
    simp
  | n + 1, h => by
    have h1 := smZ_rng (n := n) (fun i hi => h i (by omega))
    have h2 := h n (by omega)
    show ((n + 1 : Nat) : Int) * a ≤ smZ f n + f n ∧ smZ f n + f n ≤ ((n + 1 : Nat) : Int) * b
    rw [show ((n + 1 : Nat) : Int) = (n : Int) + 1 from rfl, Int.add_mul, Int.add_mul, Int.one_mul, Int.one_mul]
    omega
theorem nmul_rng {n : Nat} (hn : n ≤ 5) {z a b : Int} (ha : a ≤ 0) (hb : 0 ≤ b) (h1 : a ≤ z) (h2 : z ≤ b) : 5 * a ≤ (n : Int) * z ∧ (n : Int) * z ≤ 5 * b := by
  rcases (by omega : n = 0 ∨ n = 1 ∨ n = 2 ∨ n = 3 ∨ n = 4 ∨ n = 5) with rfl | rfl | rfl | rfl | rfl | rfl <;> omega
theorem blS_rng {W : Nat → Nat → Nat} {n : Nat} (hn1 : 1 ≤ n) (hn : n ≤ 5) (hW : ∀ i j, i < n → j < n → W i j ≤ 1000) {m : Nat} (hm : m ≤ n) : -25000 ≤ smZ (bl W n) m ∧ smZ (bl W n) m ≤ 0 := by
  have h := smZ_rng (f := bl W n) (a := -5000) (b := 0) (n := m) (fun i hi => bl_rng hn1 hn hW (by omega))
  omega
theorem prc_rng {W : Nat → Nat → Nat} {n : Nat} (hn1 : 1 ≤ n) (hn : n ≤ 5) (hW : ∀ i j, i < n → j < n → W i j ≤ 1000) {rent : Nat} (hr : rent ≤ 10000) {r : Nat} (hrn : r < n) : -25000 ≤ prc W n rent r ∧ prc W n rent r ≤ 35000 := by
  have h1 := bl_rng hn1 hn hW hrn
  have h2 := blS_rng hn1 hn hW (Nat.le_refl n)
  have h3 := nmul_rng hn (by omega) (by omega) h1.1 h1.2
  unfold prc
  omega
abbrev fpH (M : Nat → Nat → Int32) (oa be : Nat → Int32) (pr : Nat → Int64) (ct re gr se : Int32) : xH := [rmO ct re gr se, gA 9 5 5 M, iA 11 5 oa, iA 12 5 be, lA 13 5 pr]
theorem c_findPrices (l : Launch) (n : Nat) (hn1 : 1 ≤ n) (hn : n ≤ 5) (W : Nat → Nat → Nat) (M : Nat → Nat → Int32) (hM : ∀ i j, i < n → j < n → W i j ≤ 1000 ∧ M i j = nI (W i j)) (oa be : Nat → Int32) (hoa : ∀ k, k < n → oa k = nI (ow W n k)) (pr : Nat → Int64) (rent : Nat) (hrent : rent ≤ 10000) (gr se : Int32) : Ev l zX3_findPrices [.inr (8, 0)] (fpH M oa be pr (nI n) (nI rent) gr se) (fun r h' => r = none ∧ ∃ (be' : Nat → Int32) (pr' : Nat → Int64), (∀ r, r < n → pr' r = zL (prc W n rent r)) ∧ h' = fpH M oa be' pr' (nI n) (nI rent) gr se) := by
  have hW : ∀ i j, i < n → j < n → W i j ≤ 1000 := fun i j hi hj => (hM i j hi hj).1
  refine ev_all okX3_findPrices (by decide +kernel) (Nat.le_of_ble_eq_true rfl) ?_
  intro K hK
  have at74 : ∀ (be : Nat → Int32), (∀ r, r < n → be r = zI (bl W n r)) → ∀ (e r : Nat), r + e = n → ∀ (pr : Nat → Int64), (∀ q, q < r → pr q = zL (prc W n rent q)) → ∀ R : Int32, R = nI r → K 74 [(0, .inr (8, 0)), (1, vI (zI (smZ (bl W n) n))), (2, vI R)] [] (fpH M oa be pr (nI n) (nI rent) gr se) := by
    intro be hbe e
    induction e with
    | zero =>
      intro r hr pr hpr R hR
      have hr : r = n := hr
      subst hr; subst hR
      refine hK [] 80 74 _ _ _ ?_
      refine And.intro (fun _ => ?_) (fun z => absurd (Int32.le_refl _) z)
      exact And.intro ⟨rfl, be, pr, hpr, rfl⟩ rfl
    | succ e ih =>
      intro r hr pr hpr R hR
      subst hR
      have hrn : r < n := by omega
      have cr : (nI r).toNatClampNeg = r := nI_clamp (by omega)
      have g1 := bl_rng hn1 hn hW hrn
      have g2 := blS_rng hn1 hn hW (Nat.le_refl n)
      refine hK [(74, [0, 1, 2])] 80 74 _ _ _ ?_
      refine And.intro (fun z => absurd z (nI_ge (by omega) (by omega))) (fun _ => ?_)
      refine And.intro (vp_in_nI (by omega) (by omega)) (And.intro (vp_in_nI (by omega) (by omega)) ?_)
      refine ih (r + 1) (by omega) _ (fun q hq => ?_) _ (nI_1 r)
      show vp_updL pr (nI r).toNatClampNeg ((nI n).toInt64 * (be (nI r).toNatClampNeg).toInt64 + (nI rent).toInt64 - (zI (smZ (bl W n) n)).toInt64) q = _
      rw [cr]
      by_cases eq : q = r
      · subst eq
        rw [us_L, hbe q hrn, zL_nI (by omega), zL_nI (by omega), zL_zI (by omega) (by omega), zL_zI (by omega) (by omega), zL_mul, zL_add, zL_sub]
        rfl
      · rw [un_L eq]
        exact hpr q (by omega)
  have at49 : ∀ (be : Nat → Int32), (∀ r, r < n → be r = zI (bl W n r)) → ∀ (e r : Nat), r + e = n → ∀ S R : Int32, S = zI (smZ (bl W n) r) → R = nI r → K 49 [(0, .inr (8, 0)), (1, vI S), (2, vI R)] [] (fpH M oa be pr (nI n) (nI rent) gr se) := by
    intro be hbe e
    induction e with
    | zero =>
      intro r hr S R hS hR
      have hr : r = n := hr
      subst hr; subst hR; subst hS
      refine hK [(74, [0, 1, 2])] 80 49 _ _ _ ?_
      refine And.intro (fun _ => ?_) (fun z => absurd (Int32.le_refl _) z)
      exact at74 be hbe r 0 (by omega) pr (fun q hq => absurd hq (Nat.not_lt_zero q)) 0 rfl
    | succ e ih =>
      intro r hr S R hS hR
      subst hR; subst hS
      have hrn : r < n := by omega
      have cr : (nI r).toNatClampNeg = r := nI_clamp (by omega)
      refine hK [(49, [0, 1, 2])] 80 49 _ _ _ ?_
      refine And.intro (fun z => absurd z (nI_ge (by omega) (by omega))) (fun _ => ?_)
      refine And.intro (vp_in_nI (by omega) (by omega)) ?_
      refine ih (r + 1) (by omega) _ _ ?_ (nI_1 r)
      show zI (smZ (bl W n) r) + be (nI r).toNatClampNeg = zI (smZ (bl W n) r + bl W n r)
      rw [cr, hbe r hrn, zI_add]
  have at10 : ∀ (e k : Nat), k + e = n → ∀ (bx : Nat → Int) (be : Nat → Int32), bRg W n bx be → (∀ j, j < n → bx (ow W n j) ≤ dW n (cst W n) k j) → ∀ X : Int32, X = nI k → K 10 [(0, .inr (8, 0)), (1, vI X)] [] (fpH M oa be pr (nI n) (nI rent) gr se) := by
    intro e
    induction e with
    | zero =>
      intro k hk bx be hb hd X hX
      have hk : k = n := hk
      subst hk; subst hX
      refine hK [(49, [0, 1, 2])] 80 10 _ _ _ ?_
      refine And.intro (fun _ => ?_) (fun z => absurd (Int32.le_refl _) z)
      refine at49 be (fun r hr => ?_) k 0 (by omega) 0 0 rfl rfl
      obtain ⟨b1, b2, b3⟩ := hb r hr
      obtain ⟨j, hj, ej⟩ := ow_sur (W := W) hn1 hn hr
      have h1 := hd j hj
      rw [ej] at h1
      have h2 : bl W k r = dW k (cst W k) k j := by rw [← ej, bl_ow hn1 hn hj]; rfl
      rw [b3]
      congr 1
      omega
    | succ e ih =>
      intro k hk bx be hb hd X hX
      subst hX
      have at20 : ∀ (f p : Nat), p + f = n → ∀ (bx : Nat → Int) (be : Nat → Int32), bRg W n bx be → (∀ j, j < n → bx (ow W n j) ≤ dW n (cst W n) k j) → (∀ j, j < p → bx (ow W n j) ≤ dW n (cst W n) (k + 1) j) → ∀ P : Int32, P = nI p → K 20 [(0, .inr (8, 0)), (1, vI (nI k)), (2, vI P)] [] (fpH M oa be pr (nI n) (nI rent) gr se) := by
        intro f
        induction f with
        | zero =>
          intro p hp bx be hb hd hd2 P hP
          have hp : p = n := hp
          subst hp; subst hP
          refine hK [(10, [0, 1])] 80 20 _ _ _ ?_
          refine And.intro (fun _ => ?_) (fun z => absurd (Int32.le_refl _) z)
          exact ih (k + 1) (by omega) bx be hb hd2 _ (nI_1 k)
        | succ f ihf =>
          intro p hp bx be hb hd hd2 P hP
          subst hP
          refine hK [(20, [0, 1, 2])] 80 20 _ _ _ ?_
          refine And.intro (fun z => absurd z (nI_ge (by omega) (by omega))) (fun _ => ?_)
          refine ⟨[8, 9, 11, 12], _, c_lowerOwn l n hn1 hn W M hM oa be hoa bx hb (nI rent) gr se p (by omega) _ rfl, fun r hc' hPp _ => ?_⟩
          obtain ⟨rfl, bx', be', g1, g2, g3, rfl⟩ := hPp
          refine ihf (p + 1) (by omega) bx' be' g1 (fun j hj => Int.le_trans (g2 _ (ow_lt hn1 j)) (hd j hj)) (fun j hj => ?_) _ (nI_1 p)
          by_cases ej : j = p
          · subst ej
            obtain ⟨q, hq, eq⟩ := dW_at (n := n) (c := cst W n) k j hn1
            have h1 := g3 (ow W n q) (ow_lt hn1 q)
            have h2 := hd q hq
            have hc : cst W n j q = (W j (ow W n j) : Int) - (W j (ow W n q) : Int) := rfl
            rw [eq]
            omega
          · exact Int.le_trans (g2 _ (ow_lt hn1 j)) (hd2 j (by omega))
      refine hK [(20, [0, 1, 2])] 80 10 _ _ _ ?_
      refine And.intro (fun z => absurd z (nI_ge (by omega) (by omega))) (fun _ => ?_)
      exact at20 n 0 (by omega) bx be hb hd (fun j hj => absurd hj (Nat.not_lt_zero j)) 0 rfl
  refine hK [(10, [0, 1])] 80 0 _ _ _ ?_
  refine And.intro (by decide) ?_
  refine at10 n 0 (by omega) (fun _ => 0) (x_fill 5 0 be) (fun r hr => ⟨(bl_rng hn1 hn hW hr).2, Int.le_refl _, ?_⟩) (fun j hj => Int.le_refl _) 0 rfl
  rw [x_fill_in (by omega)]
  rfl
/-- settled: what the answers stand on -/
def RQ (n : Nat) (W : Nat → Nat → Nat) (rent : Nat) (ow' : Nat → Int32) (pr : Nat → Int64) (gr : Int32) : Prop := gr = nI (sW W n (bX W n)) ∧ (∀ k, k < n → ow' k = nI (ow W n k)) ∧ ∀ r, r < n → pr r = zL (prc W n rent r)
theorem c_settle (l : Launch) (n : Nat) (W : Nat → Nat → Nat) (rent : Nat) (mo : Nat → Int) (M : Nat → Nat → Int32) (tr ow' be : Nat → Int32) (pr : Nat → Int64) (mo' : Nat → Int32) (ct re gr se : Int32) (hB : RB n W rent mo M mo' ct re) (hS : RS n W rent ow' pr gr se) : Ev l zX3_settle [.inr (8, 0)] (rmH M tr ow' be pr mo' ct re gr se) (fun r h' => r = none ∧ ∃ (tr ow' be : Nat → Int32) (pr : Nat → Int64) (gr : Int32), RQ n W rent ow' pr gr ∧ h' = rmH M tr ow' be pr mo' ct re gr 1) := by
  obtain ⟨h1, h2, h3, rfl, rfl, h6, h7⟩ := hB
  refine ev_run okX3_settle (by decide +kernel) (Nat.le_of_ble_eq_true rfl) 60 ?_
  rcases hS with rfl | ⟨rfl, s2, s3, s4⟩
  · refine And.intro (fun _ => ?_) (fun z => absurd rfl z)
    refine And.intro (Or.inr rfl) ?_
    refine ⟨[8, 9, 10, 11], _, c_findBest l n h1 h2 W M h6 tr ow' (nI rent) gr 1, fun r hc' hP _ => ?_⟩
    obtain ⟨rfl, ta', oa', g1, rfl⟩ := hP
    refine ⟨[8, 9, 11, 12, 13], _, c_findPrices l n h1 h2 W M h6 oa' be g1 pr rent h3 (nI (sW W n (bX W n))) 1, fun r hc' hP _ => ?_⟩
    obtain ⟨rfl, be', pr', g2, rfl⟩ := hP
    exact And.intro ⟨rfl, ta', oa', be', pr', _, ⟨rfl, g1, g2⟩, rfl⟩ rfl
  · refine And.intro (fun z => absurd z (by decide)) (fun _ => ?_)
    exact And.intro ⟨rfl, tr, ow', be, pr, gr, ⟨s2, s3, s4⟩, rfl⟩ rfl
theorem RH_of {n : Nat} {W : Nat → Nat → Nat} {rent : Nat} {mo : Nat → Int} {M : Nat → Nat → Int32} {tr ow' be : Nat → Int32} {pr : Nat → Int64} {mo' : Nat → Int32} {ct re gr : Int32} (hB : RB n W rent mo M mo' ct re) (hQ : RQ n W rent ow' pr gr) : RH n W rent mo (rmH M tr ow' be pr mo' ct re gr 1) := ⟨M, tr, ow', be, pr, mo', ct, re, gr, 1, rfl, hB, Or.inr ⟨rfl, hQ.1, hQ.2.1, hQ.2.2⟩⟩
theorem c_best (l : Launch) (n : Nat) (W : Nat → Nat → Nat) (rent : Nat) (mo : Nat → Int) (h : xH) (hH : RH n W rent mo h) : Ev l zX3_greatestSum [.inr (8, 0)] h (fun r h' => r = some (vI (nI (sW W n (bX W n)))) ∧ RH n W rent mo h') := by
  obtain ⟨M, tr, ow', be, pr, mo', ct, re, gr, se, rfl, hB, hS⟩ := hH
  refine ev_run okX3_greatestSum (by decide +kernel) (Nat.le_of_ble_eq_true rfl) 60 ?_
  refine ⟨[8, 9, 10, 11, 12, 13, 14], _, c_settle l n W rent mo M tr ow' be pr mo' ct re gr se hB hS, fun r hc' hP _ => ?_⟩
  obtain ⟨rfl, tr, ow', be, pr, gr, hQ, rfl⟩ := hP
  exact And.intro ⟨by rw [← hQ.1], RH_of hB hQ⟩ rfl
def qHas (n : Nat) (W : Nat → Nat → Nat) (x : Int32) : Int32 := if is1 n x = true then nI (ow W n x.toInt.toNat) else -1
theorem c_roomOf (l : Launch) (n : Nat) (W : Nat → Nat → Nat) (rent : Nat) (mo : Nat → Int) (h : xH) (hH : RH n W rent mo h) (x : Int32) : Ev l zX3_roomOf [.inr (8, 0), vI x] h (fun r h' => r = some (vI (qHas n W x)) ∧ RH n W rent mo h') := by
  obtain ⟨M, tr, ow', be, pr, mo', ct, re, gr, se, rfl, hB, hS⟩ := hH
  obtain ⟨h1, h2, h3, rfl, h5, h6, h7⟩ := id hB
  refine ev_run okX3_roomOf (by decide +kernel) (Nat.le_of_ble_eq_true rfl) 60 ?_
  refine ⟨[8], _, c_isOne3 l n h2 re gr se x, fun r hc' hP _ => ?_⟩
  obtain ⟨rfl, rfl⟩ := hP
  refine And.intro (fun q => ?_) (fun q => ?_)
  · have q := b2i1 q
    refine ⟨[8, 9, 10, 11, 12, 13, 14], _, c_settle l n W rent mo M tr ow' be pr mo' (nI n) re gr se hB hS, fun r hc' hP _ => ?_⟩
    obtain ⟨rfl, tr, ow', be, pr, gr, hQ, rfl⟩ := hP
    unfold qHas
    rw [if_pos q]
    obtain ⟨k, hk, rfl, hkt⟩ := is1_of q
    refine And.intro (vp_in_nI (by omega) (by omega)) (And.intro ⟨?_, RH_of hB hQ⟩ rfl)
    show some (vI (ow' (nI k).toNatClampNeg)) = _
    rw [nI_clamp (by omega), hQ.2.1 k hk, hkt]
    rfl
  · refine And.intro ⟨?_, M, tr, ow', be, pr, mo', nI n, re, gr, se, rfl, hB, hS⟩ rfl
    unfold qHas
    rw [b2i0 q]
    rfl
def minL : Int64 := -9223372036854775808
def qPrice (n : Nat) (W : Nat → Nat → Nat) (rent : Nat) (x : Int32) : Int64 := if is1 n x = true then zL (prc W n rent x.toInt.toNat) else minL
theorem c_priceOf (l : Launch) (n : Nat) (W : Nat → Nat → Nat) (rent : Nat) (mo : Nat → Int) (h : xH) (hH : RH n W rent mo h) (x : Int32) : Ev l zX3_priceOf [.inr (8, 0), vI x] h (fun r h' => r = some (vL (qPrice n W rent x)) ∧ RH n W rent mo h') := by
  obtain ⟨M, tr, ow', be, pr, mo', ct, re, gr, se, rfl, hB, hS⟩ := hH
  obtain ⟨h1, h2, h3, rfl, h5, h6, h7⟩ := id hB
  refine ev_run okX3_priceOf (by decide +kernel) (Nat.le_of_ble_eq_true rfl) 60 ?_
  refine ⟨[8], _, c_isOne3 l n h2 re gr se x, fun r hc' hP _ => ?_⟩
  obtain ⟨rfl, rfl⟩ := hP
  refine And.intro (fun q => ?_) (fun q => ?_)
  · have q := b2i1 q
    refine ⟨[8, 9, 10, 11, 12, 13, 14], _, c_settle l n W rent mo M tr ow' be pr mo' (nI n) re gr se hB hS, fun r hc' hP _ => ?_⟩
    obtain ⟨rfl, tr, ow', be, pr, gr, hQ, rfl⟩ := hP
    unfold qPrice
    rw [if_pos q]
    obtain ⟨k, hk, rfl, hkt⟩ := is1_of q
    refine And.intro (vp_in_nI (by omega) (by omega)) (And.intro ⟨?_, RH_of hB hQ⟩ rfl)
    show some (vL (pr (nI k).toNatClampNeg)) = _
    rw [nI_clamp (by omega), hQ.2.2 k hk, hkt]
    rfl
  · refine And.intro ⟨?_, M, tr, ow', be, pr, mo', nI n, re, gr, se, rfl, hB, hS⟩ rfl
    unfold qPrice
    rw [b2i0 q]
    rfl
/-! what a person gains at a room -/
def gn (n : Nat) (W : Nat → Nat → Nat) (rent : Nat) (mo : Nat → Int) (p r : Nat) : Int := (n : Int) * (W p r : Int) - (prc W n rent r + mo r)
theorem c_asked (l : Launch) (n : Nat) (hn : n ≤ 5) (W : Nat → Nat → Nat) (rent : Nat) (mo : Nat → Int) (pr : Nat → Int64) (mo' : Nat → Int32) (hpr : ∀ r, r < n → pr r = zL (prc W n rent r)) (hmo : ∀ r, r < n → -100000 ≤ mo r ∧ mo r ≤ 100000 ∧ mo' r = zI (mo r)) (ct re gr se : Int32) (r : Nat) (hr : r < n) (x : Int32) (hx : x = nI r) : Ev l zX3_asked [.inr (8, 0), vI x] [rmO ct re gr se, lA 13 5 pr, iA 14 5 mo'] (fun v h' => v = some (vL (zL (prc W n rent r + mo r))) ∧ h' = [rmO ct re gr se, lA 13 5 pr, iA 14 5 mo']) := by
  subst hx
  have cr : (nI r).toNatClampNeg = r := nI_clamp (by omega)
  obtain ⟨m1, m2, m3⟩ := hmo r hr
  refine ev_run okX3_asked (by decide +kernel) (Nat.le_of_ble_eq_true rfl) 60 ?_
  refine And.intro (vp_in_nI (by omega) (by omega)) (And.intro (vp_in_nI (by omega) (by omega)) (And.intro ⟨?_, rfl⟩ rfl))
  show some (vL (pr (nI r).toNatClampNeg + (mo' (nI r).toNatClampNeg).toInt64)) = _
  rw [cr, hpr r hr, m3, zL_zI (by omega) (by omega), zL_add]
theorem c_gainAt (l : Launch) (n : Nat) (hn : n ≤ 5) (W : Nat → Nat → Nat) (rent : Nat) (mo : Nat → Int) (M : Nat → Nat → Int32) (hM : ∀ i j, i < n → j < n → W i j ≤ 1000 ∧ M i j = nI (W i j)) (pr : Nat → Int64) (mo' : Nat → Int32) (hpr : ∀ r, r < n → pr r = zL (prc W n rent r)) (hmo : ∀ r, r < n → -100000 ≤ mo r ∧ mo r ≤ 100000 ∧ mo' r = zI (mo r)) (re gr se : Int32) (p r : Nat) (hp : p < n) (hr : r < n) (x y : Int32) (hx : x = nI p) (hy : y = nI r) : Ev l zX3_gainAt [.inr (8, 0), vI x, vI y] [rmO (nI n) re gr se, gA 9 5 5 M, lA 13 5 pr, iA 14 5 mo'] (fun v h' => v = some (vL (zL (gn n W rent mo p r))) ∧ h' = [rmO (nI n) re gr se, gA 9 5 5 M, lA 13 5 pr, iA 14 5 mo']) := by
  subst hx; subst hy
  have cr : (nI r).toNatClampNeg = r := nI_clamp (by omega)
  have cp : (nI p).toNatClampNeg = p := nI_clamp (by omega)
  obtain ⟨w1, w2⟩ := hM p r hp hr
  refine ev_run okX3_gainAt (by decide +kernel) (Nat.le_of_ble_eq_true rfl) 60 ?_
  refine And.intro (vp_in_nI (by omega) (by omega)) (And.intro (by rw [cp]; omega) (And.intro (vp_in_nI (by omega) (by omega)) ?_))
  refine ⟨[8, 13, 14], _, c_asked l n hn W rent mo pr mo' hpr hmo (nI n) re gr se r hr _ rfl, fun v hc' hP _ => ?_⟩
  obtain ⟨rfl, rfl⟩ := hP
  refine And.intro ⟨?_, rfl⟩ rfl
  show some (vL ((nI n).toInt64 * (M (nI p).toNatClampNeg (nI r).toNatClampNeg).toInt64 - zL (prc W n rent r + mo r))) = _
  rw [cr, cp, w2, zL_nI (by omega), zL_nI (by omega), zL_mul, zL_sub]
  rfl
def qGrudge (n : Nat) (W : Nat → Nat → Nat) (rent : Nat) (mo : Nat → Int) (x y : Int32) : Int64 := if (is1 n x && is1 n y) = true then zL (gn n W rent mo x.toInt.toNat (ow W n y.toInt.toNat) - gn n W rent mo x.toInt.toNat (ow W n x.toInt.toNat)) else minL
theorem c_grudge (l : Launch) (n : Nat) (W : Nat → Nat → Nat) (rent : Nat) (mo : Nat → Int) (h : xH) (hH : RH n W rent mo h) (x y : Int32) : Ev l zX3_grudgeOf [.inr (8, 0), vI x, vI y] h (fun r h' => r = some (vL (qGrudge n W rent mo x y)) ∧ RH n W rent mo h') := by
  obtain ⟨M, tr, ow', be, pr, mo', ct, re, gr, se, rfl, hB, hS⟩ := hH
  obtain ⟨h1, h2, h3, rfl, h5, h6, h7⟩ := id hB
  have no : (is1 n x && is1 n y) = false → qGrudge n W rent mo x y = minL := fun q => by
    unfold qGrudge
    rw [q]
    rfl
  refine ev_run okX3_grudgeOf (by decide +kernel) (Nat.le_of_ble_eq_true rfl) 60 ?_
  refine ⟨[8], _, c_isOne3 l n h2 re gr se x, fun r hc' hP _ => ?_⟩
  obtain ⟨rfl, rfl⟩ := hP
  refine And.intro (fun q => ?_) (fun q => ?_)
  · refine And.intro ⟨?_, M, tr, ow', be, pr, mo', nI n, re, gr, se, rfl, hB, hS⟩ rfl
    rw [no (by rw [b2i0 q]; rfl)]
    rfl
  refine ⟨[8], _, c_isOne3 l n h2 re gr se y, fun r hc' hP _ => ?_⟩
  obtain ⟨rfl, rfl⟩ := hP
  refine And.intro (fun q1 => ?_) (fun q1 => ?_)
  · have q := b2i1 q
    have q1 := b2i1 q1
    refine ⟨[8, 9, 10, 11, 12, 13, 14], _, c_settle l n W rent mo M tr ow' be pr mo' (nI n) re gr se hB hS, fun r hc' hP _ => ?_⟩
    obtain ⟨rfl, tr, ow', be, pr, gr, hQ, rfl⟩ := hP
    have e : (is1 n x && is1 n y) = true := by rw [q, q1]; rfl
    unfold qGrudge
    rw [if_pos e]
    obtain ⟨a, ha, rfl, hat⟩ := is1_of q
    obtain ⟨b, hb, rfl, hbt⟩ := is1_of q1
    have ca : (nI a).toNatClampNeg = a := nI_clamp (by omega)
    have cb : (nI b).toNatClampNeg = b := nI_clamp (by omega)
    refine And.intro (vp_in_nI (by omega) (by omega)) ?_
    refine ⟨[8, 9, 13, 14], _, c_gainAt l n h2 W rent mo M h6 pr mo' hQ.2.2 h7 re gr 1 a (ow W n b) ha (ow_lt h1 b) _ _ rfl (by show ow' (nI b).toNatClampNeg = _; rw [cb]; exact hQ.2.1 b hb), fun v hc' hP _ => ?_⟩
    obtain ⟨rfl, rfl⟩ := hP
    refine And.intro (vp_in_nI (by omega) (by omega)) ?_
    refine ⟨[8, 9, 13, 14], _, c_gainAt l n h2 W rent mo M h6 pr mo' hQ.2.2 h7 re gr 1 a (ow W n a) ha (ow_lt h1 a) _ _ rfl (by show ow' (nI a).toNatClampNeg = _; rw [ca]; exact hQ.2.1 a ha), fun v hc' hP _ => ?_⟩
    obtain ⟨rfl, rfl⟩ := hP
    refine And.intro ⟨?_, RH_of hB hQ⟩ rfl
    rw [hat, hbt]
    show some (vL (zL _ - zL _)) = _
    rw [zL_sub]
    rfl
  · refine And.intro ⟨?_, M, tr, ow', be, pr, mo', nI n, re, gr, se, rfl, hB, hS⟩ rfl
    rw [no (by rw [b2i0 q1, Bool.and_false])]
    rfl
