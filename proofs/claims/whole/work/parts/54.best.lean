/-! ===== Rooms: the best sharing ===== -/
def BS (W : Nat → Nat → Nat) (n : Nat) (o : Option Nat) (gr : Int32) (oa : Nat → Int32) : Prop := match o with
  | none => gr = -1
  | some y => gr = nI (sW W n y) ∧ ∀ k, k < n → oa k = nI (dg n y k)
theorem sm_le {f : Nat → Nat} {b : Nat} : ∀ {n : Nat}, (∀ i, i < n → f i ≤ b) → sm f n ≤ n * b
  | 0, _ => by simp [sm]
  | n + 1, h => by
    have h1 := sm_le (n := n) (fun i hi => h i (by omega))
    have h2 := h n (by omega)
    show sm f n + f n ≤ (n + 1) * b
    rw [Nat.add_mul, Nat.one_mul]
    omega
theorem sW_le {W : Nat → Nat → Nat} {n : Nat} (hn1 : 1 ≤ n) (hn : n ≤ 5) (hW : ∀ i j, i < n → j < n → W i j ≤ 1000) (x : Nat) : sW W n x ≤ 5000 := by
  have h := sm_le (f := fun k => W k (dg n x k)) (b := 1000) (n := n) (fun i hi => hW i _ hi (dg_lt hn1 x i))
  unfold sW
  omega
theorem take_1 {l : List Nat} {t x : Nat} (h : l[t]? = some x) : l.take (t + 1) = l.take t ++ [x] := by
  rw [List.take_add_one, h]
  rfl
abbrev fbH (M : Nat → Nat → Int32) (ta oa : Nat → Int32) (ct re gr se : Int32) : xH := [rmO ct re gr se, gA 9 5 5 M, iA 10 5 ta, iA 11 5 oa]
theorem c_findBest (l : Launch) (n : Nat) (hn1 : 1 ≤ n) (hn : n ≤ 5) (W : Nat → Nat → Nat) (M : Nat → Nat → Int32) (hM : ∀ i j, i < n → j < n → W i j ≤ 1000 ∧ M i j = nI (W i j)) (ta oa : Nat → Int32) (re gr se : Int32) : Ev l zX3_findBest [.inr (8, 0)] (fbH M ta oa (nI n) re gr se) (fun r h' => r = none ∧ ∃ (ta' oa' : Nat → Int32), (∀ k, k < n → oa' k = nI (ow W n k)) ∧ h' = fbH M ta' oa' (nI n) re (nI (sW W n (bX W n))) se) := by
  obtain ⟨hch, hlen, x0, rr, hPL0, hid⟩ := chn_all n hn1 (by omega)
  refine ev_all okX3_findBest (by decide +kernel) (Nat.le_of_ble_eq_true rfl) ?_
  intro K hK
  have hW : ∀ i j, i < n → j < n → W i j ≤ 1000 := fun i j hi hj => (hM i j hi hj).1
  have fin : ∀ (gr : Int32) (ta oa : Nat → Int32), BS W n (bF W n (PL n)) gr oa → ((none : Option xV) = none ∧ ∃ (ta' oa' : Nat → Int32), (∀ k, k < n → oa' k = nI (ow W n k)) ∧ fbH M ta oa (nI n) re gr se = fbH M ta' oa' (nI n) re (nI (sW W n (bX W n))) se) := by
    intro gr ta oa hb
    rw [bX_eq hn1 hn] at hb
    obtain ⟨b1, b2⟩ := hb
    refine ⟨rfl, ta, oa, b2, ?_⟩
    rw [b1]
  have at32 : ∀ (f t x : Nat), t + f = (PL n).length → (PL n)[t]? = some x → ∀ (gr : Int32) (ta oa : Nat → Int32), (∀ k, k < n → ta k = nI (dg n x k)) → BS W n (bF W n ((PL n).take t)) gr oa → ∀ T : Int32, T = nI t → K 32 [(0, .inr (8, 0)), (1, vI 1), (2, vI T)] [] (fbH M ta oa (nI n) re gr se) := by
    intro f
    induction f with
    | zero =>
      intro t x ht hx
      rw [List.getElem?_eq_none (by omega)] at hx
      cases hx
    | succ f ih =>
      intro t x ht hx gr ta oa hta hb T hT
      subst hT
      have hdx : ∀ k, k < n → dg n x k < n ∧ ta k = nI (dg n x k) := fun k hk => ⟨dg_lt hn1 x k, hta k hk⟩
      have hsx := sW_le hn1 hn hW x
      obtain ⟨hch1, hch2⟩ := chn_at (PL n) hch t x hx
      have at77 : ∀ (gr : Int32) (oa : Nat → Int32), BS W n (bF W n ((PL n).take (t + 1))) gr oa → K 77 [(0, .inr (8, 0)), (1, vI 1), (2, vI (nI t))] [] (fbH M ta oa (nI n) re gr se) := by
        intro gr oa hb
        refine hK [(32, [0, 1, 2])] 60 77 _ _ _ ?_
        refine ⟨[8, 10], _, c_nextTrial l n hn1 hn (dg n x) ta hdx re gr se, fun r hc' hP _ => ?_⟩
        rcases hP with ⟨p1, rfl, ta', rfl⟩ | ⟨t', p1, rfl, ta', p2, rfl⟩
        · -- the last one
          by_cases hl : t + 1 < (PL n).length
          · exfalso
            obtain ⟨y, tr, q1, q2, q3⟩ := hch2 hl
            rw [q2] at p1
            cases p1
          · refine hK [] 60 32 _ _ _ ?_
            have hb : BS W n (bF W n (PL n)) gr oa := by
              rw [show (PL n).take (t + 1) = PL n from List.take_of_length_le (by omega)] at hb
              exact hb
            refine And.intro (fun _ => ?_) (fun _ => ?_)
            · exact And.intro (fin gr ta' oa hb) rfl
            · refine And.intro (fun _ => ?_) (fun z => absurd rfl z)
              exact And.intro (fin gr ta' oa hb) rfl
        · by_cases hl : t + 1 < (PL n).length
          · obtain ⟨y, tr, q1, q2, q3⟩ := hch2 hl
            rw [q2] at p1
            cases p1
            exact ih (t + 1) y (by omega) q1 gr ta' oa (fun k hk => by rw [← q3 k hk]; exact (p2 k hk).2) hb _ (nI_1 t)
          · exfalso
            rw [hch1 (by omega)] at p1
            cases p1
      refine hK [(77, [0, 1, 2])] 60 32 _ _ _ ?_
      refine And.intro (fun z => absurd (show nI 120 ≤ nI t from z) (nI_ge (by omega) (by omega))) (fun _ => ?_)
      refine And.intro (fun z => absurd z (by decide)) (fun _ => ?_)
      refine ⟨[8, 9, 10], _, c_sumTrial l n hn W M (fun i j hi hj => (hM i j hi hj).2) (dg n x) ta hdx re gr se, fun r hc' hP _ => ?_⟩
      obtain ⟨rfl, rfl⟩ := hP
      have hbt := bF_app W n ((PL n).take t) x
      rw [← take_1 hx] at hbt
      have keep : bF W n ((PL n).take (t + 1)) = bF W n ((PL n).take t) → K 77 [(0, .inr (8, 0)), (1, vI 1), (2, vI (nI t))] [] (fbH M ta oa (nI n) re gr se) := fun e => at77 gr oa (by rw [e]; exact hb)
      have put : bF W n ((PL n).take (t + 1)) = some x → (¬ (0 : Int32) < 0 ∧ ¬ (0 : Int32) < 0 ∧ ¬ nI n < 0 ∧ (0 : Int32).toNatClampNeg + (nI n).toNatClampNeg ≤ 5 ∧ (0 : Int32).toNatClampNeg + (nI n).toNatClampNeg ≤ 5 ∧ K 77 [(0, .inr (8, 0)), (1, vI 1), (2, vI (nI t))] [] (fbH M ta (va_cpy ta oa (0 : Int32).toNatClampNeg (0 : Int32).toNatClampNeg (nI n).toNatClampNeg) (nI n) re (nI (sW W n x)) se)) := by
        intro e
        have cn : (nI n).toNatClampNeg = n := nI_clamp (by omega)
        have c0 : (0 : Int32).toNatClampNeg = 0 := by decide
        refine ⟨by decide, by decide, fun z => absurd (show nI n < nI 0 from z) (nI_nlt (by omega) (by omega)), by rw [cn, c0]; omega, by rw [cn, c0]; omega, ?_⟩
        rw [cn, c0]
        refine at77 _ _ ?_
        rw [e]
        refine ⟨rfl, fun k hk => ?_⟩
        unfold va_cpy
        rw [if_pos (by omega)]
        rw [show 0 + (k - 0) = k by omega]
        exact hta k hk
      have hsum : sm (fun k => W k (dg n x k)) n = sW W n x := rfl
      cases ho : bF W n ((PL n).take t) with
      | none =>
        rw [ho] at hb hbt
        have hb : gr = -1 := hb
        refine And.intro (fun z => ?_) (fun _ => put hbt)
        exfalso
        have z : nI (sm (fun k => W k (dg n x k)) n) ≤ gr := z
        rw [hb, le_T, hsum, nI_toInt (by omega), show (-1 : Int32).toInt = -1 by decide] at z
        omega
      | some y =>
        rw [ho] at hb hbt
        obtain ⟨b1, b2⟩ := hb
        have hsy := sW_le hn1 hn hW y
        have hbt : bF W n ((PL n).take (t + 1)) = if sW W n y < sW W n x then some x else some y := hbt
        refine And.intro (fun z => ?_) (fun z => ?_)
        · have z : nI (sW W n x) ≤ gr := z
          rw [b1, nI_leI (by omega) (by omega)] at z
          rw [if_neg (by omega)] at hbt
          exact keep (hbt.trans ho.symm)
        · have z : ¬ nI (sW W n x) ≤ gr := z
          rw [b1, nI_leI (by omega) (by omega)] at z
          rw [if_pos (by omega)] at hbt
          exact put hbt
  have at2 : ∀ (e k : Nat), k + e = n → ∀ (ta : Nat → Int32), (∀ j, j < k → ta j = nI j) → ∀ X : Int32, X = nI k → K 2 [(0, .inr (8, 0)), (1, vI X)] [] (fbH M ta oa (nI n) re gr se) := by
    intro e
    induction e with
    | zero =>
      intro k hk ta hta X hX
      have hk : k = n := hk
      subst hk; subst hX
      refine hK [(32, [0, 1, 2])] 60 2 _ _ _ ?_
      refine And.intro (fun _ => ?_) (fun z => absurd (Int32.le_refl _) z)
      have hlen2 : (PL k).length = rr.length + 1 := by rw [hPL0]; rfl
      refine at32 (rr.length + 1) 0 x0 (by omega) (by rw [hPL0]; rfl) (-1) ta oa (fun j hj => by rw [hid j hj]; exact hta j hj) ?_ _ rfl
      exact rfl
    | succ e ih =>
      intro k hk ta hta X hX
      subst hX
      have ck : (nI k).toNatClampNeg = k := nI_clamp (by omega)
      refine hK [(2, [0, 1])] 60 2 _ _ _ ?_
      refine And.intro (fun z => absurd z (nI_ge (by omega) (by omega))) (fun _ => ?_)
      refine And.intro (vp_in_nI (by omega) (by omega)) ?_
      refine ih (k + 1) (by omega) _ (fun j hj => ?_) _ (nI_1 k)
      rw [ck]
      by_cases ej : j = k
      · rw [ej, pk_us]
      · rw [pk_un ej]
        exact hta j (by omega)
  refine hK [(2, [0, 1])] 60 0 _ _ _ ?_
  exact at2 n 0 (by omega) ta (fun j hj => absurd hj (Nat.not_lt_zero j)) 0 rfl
/-! ===== Rooms: the rents ===== -/
theorem bl_fix {W : Nat → Nat → Nat} {n : Nat} (hn1 : 1 ≤ n) (hn : n ≤ 5) {p r : Nat} (hp : p < n) (hr : r < n) : bl W n (ow W n p) ≤ bl W n r + (W p (ow W n p) : Int) - (W p r : Int) := by
  obtain ⟨i1, i2⟩ := inv_lt (W := W) hn1 hn hr
  have h := dn_fix (W := W) hn1 hn hp i1
  rw [bl_ow hn1 hn hp]
  unfold cst at h
  rw [i2] at h
  unfold bl
  omega
abbrev foH (M : Nat → Nat → Int32) (oa be : Nat → Int32) (ct re gr se : Int32) : xH := [rmO ct re gr se, gA 9 5 5 M, iA 11 5 oa, iA 12 5 be]
/-- rents below the top: between the least and 0 -/
def bRg (W : Nat → Nat → Nat) (n : Nat) (bx : Nat → Int) (be : Nat → Int32) : Prop := ∀ r, r < n → bl W n r ≤ bx r ∧ bx r ≤ 0 ∧ be r = zI (bx r)
theorem c_lowerOwn (l : Launch) (n : Nat) (hn1 : 1 ≤ n) (hn : n ≤ 5) (W : Nat → Nat → Nat) (M : Nat → Nat → Int32) (hM : ∀ i j, i < n → j < n → W i j ≤ 1000 ∧ M i j = nI (W i j)) (oa be : Nat → Int32) (hoa : ∀ k, k < n → oa k = nI (ow W n k)) (bx : Nat → Int) (hbx : bRg W n bx be) (re gr se : Int32) (p : Nat) (hp : p < n) (x : Int32) (hx : x = nI p) : Ev l zX3_lowerOwn [.inr (8, 0), vI x] (foH M oa be (nI n) re gr se) (fun r h' => r = none ∧ ∃ (bx' : Nat → Int) (be' : Nat → Int32), bRg W n bx' be' ∧ (∀ r, r < n → bx' r ≤ bx r) ∧ (∀ r, r < n → bx' (ow W n p) ≤ bx r + (W p (ow W n p) : Int) - (W p r : Int)) ∧ h' = foH M oa be' (nI n) re gr se) := by
  subst hx
  have hW : ∀ i j, i < n → j < n → W i j ≤ 1000 := fun i j hi hj => (hM i j hi hj).1
  have hom := ow_lt (W := W) hn1 p
  have cp : (nI p).toNatClampNeg = p := nI_clamp (by omega)
  have cm : (nI (ow W n p)).toNatClampNeg = ow W n p := nI_clamp (by omega)
  refine ev_all okX3_lowerOwn (by decide +kernel) (Nat.le_of_ble_eq_true rfl) ?_
  intro K hK
  have loop : ∀ (e r : Nat), r + e = n → ∀ (bx' : Nat → Int) (be' : Nat → Int32), bRg W n bx' be' → (∀ q, q < n → bx' q ≤ bx q) → (∀ q, q < r → bx' (ow W n p) ≤ bx q + (W p (ow W n p) : Int) - (W p q : Int)) → ∀ R : Int32, R = nI r → K 9 [(0, .inr (8, 0)), (1, vI (nI p)), (2, vI (nI (ow W n p))), (3, vI R)] [] (foH M oa be' (nI n) re gr se) := by
    intro e
    induction e with
    | zero =>
      intro r hr bx' be' h1 h2 h3 R hR
      have hr : r = n := hr
      subst hr; subst hR
      refine hK [] 80 9 _ _ _ ?_
      refine And.intro (fun _ => ?_) (fun z => absurd (Int32.le_refl _) z)
      exact And.intro ⟨rfl, bx', be', h1, h2, h3, rfl⟩ rfl
    | succ e ih =>
      intro r hr bx' be' h1 h2 h3 R hR
      subst hR
      have hrn : r < n := by omega
      have cr : (nI r).toNatClampNeg = r := nI_clamp (by omega)
      refine hK [(9, [0, 1, 2, 3])] 80 9 _ _ _ ?_
      refine And.intro (fun z => absurd z (nI_ge (by omega) (by omega))) (fun _ => ?_)
      refine And.intro (vp_in_nI (by omega) (by omega)) (And.intro (vp_in_nI (by omega) (by omega)) (And.intro (by rw [cp]; omega) (And.intro (vp_in_nI (by omega) (by omega)) (And.intro (vp_in_nI (by omega) (by omega)) (And.intro (by rw [cp]; omega) (And.intro (vp_in_nI (by omega) (by omega)) (And.intro (vp_in_nI (by omega) (by omega)) (And.intro (vp_in_nI (by omega) (by omega)) ?_))))))))
      -- the new rent
      have w1 := hW p (ow W n p) hp hom
      have w2 := hW p r hp hrn
      obtain ⟨a1, a2, a3⟩ := h1 r hrn
      obtain ⟨b1, b2, b3⟩ := h1 (ow W n p) hom
      have g1 := bl_rng hn1 hn hW hrn
      have g2 := bl_rng hn1 hn hW hom
      have gf := bl_fix (W := W) hn1 hn hp hrn
      have eb : be' (nI r).toNatClampNeg + M (nI p).toNatClampNeg (nI (ow W n p)).toNatClampNeg - M (nI p).toNatClampNeg (nI r).toNatClampNeg = zI (bx' r + (W p (ow W n p) : Int) - (W p r : Int)) := by
        rw [cr, cp, cm, a3, (hM p (ow W n p) hp hom).2, (hM p r hp hrn).2, ← zI_nat, ← zI_nat, zI_add, zI_sub]
      have ev : (if be' (nI r).toNatClampNeg + M (nI p).toNatClampNeg (nI (ow W n p)).toNatClampNeg - M (nI p).toNatClampNeg (nI r).toNatClampNeg < be' (nI (ow W n p)).toNatClampNeg then be' (nI r).toNatClampNeg + M (nI p).toNatClampNeg (nI (ow W n p)).toNatClampNeg - M (nI p).toNatClampNeg (nI r).toNatClampNeg else be' (nI (ow W n p)).toNatClampNeg) = zI (if bx' r + (W p (ow W n p) : Int) - (W p r : Int) < bx' (ow W n p) then bx' r + (W p (ow W n p) : Int) - (W p r : Int) else bx' (ow W n p)) := by
        rw [eb, cm, b3]
        by_cases q : bx' r + (W p (ow W n p) : Int) - (W p r : Int) < bx' (ow W n p)
        · rw [if_pos q, if_pos (by rw [lt_T, zI_T (by omega) (by omega), zI_T (by omega) (by omega)]; exact q)]
        · rw [if_neg q, if_neg (by rw [lt_T, zI_T (by omega) (by omega), zI_T (by omega) (by omega)]; exact q)]
      refine ih (r + 1) (by omega) (upZ bx' (ow W n p) (if bx' r + (W p (ow W n p) : Int) - (W p r : Int) < bx' (ow W n p) then bx' r + (W p (ow W n p) : Int) - (W p r : Int) else bx' (ow W n p))) (upd be' (nI (ow W n p)).toNatClampNeg (if be' (nI r).toNatClampNeg + M (nI p).toNatClampNeg (nI (ow W n p)).toNatClampNeg - M (nI p).toNatClampNeg (nI r).toNatClampNeg < be' (nI (ow W n p)).toNatClampNeg then be' (nI r).toNatClampNeg + M (nI p).toNatClampNeg (nI (ow W n p)).toNatClampNeg - M (nI p).toNatClampNeg (nI r).toNatClampNeg else be' (nI (ow W n p)).toNatClampNeg)) (fun q hq => ?_) (fun q hq => ?_) (fun q hq => ?_) _ (nI_1 r)
      · rw [ev, cm]
        unfold upZ
        by_cases eq : q = ow W n p
        · subst eq
          rw [if_pos rfl, pk_us]
          refine ⟨?_, ?_, rfl⟩ <;> split <;> omega
        · rw [if_neg eq, pk_un eq]
          exact h1 q hq
      · have := h2 q hq
        unfold upZ
        by_cases eq : q = ow W n p
        · subst eq
          rw [if_pos rfl]
          split <;> omega
        · rw [if_neg eq]
          exact this
      · unfold upZ
        rw [if_pos rfl]
        by_cases eq : q = r
        · subst eq
          have := h2 q hrn
          split <;> omega
        · have := h3 q (by omega)
          split <;> omega
  refine hK [(9, [0, 1, 2, 3])] 80 0 _ _ _ ?_
  refine And.intro (vp_in_nI (by omega) (by omega)) ?_
  have e0 : oa (nI p).toNatClampNeg = nI (ow W n p) := by rw [cp]; exact hoa p hp
  have g := loop n 0 (by omega) bx be hbx (fun q _ => Int.le_refl _) (fun q hq => absurd hq (Nat.not_lt_zero q)) 0 rfl
  rw [← e0] at g
  exact g
