/-! ===== Rooms: check ===== -/
def mxZ (f : Nat → Int) : Nat → Int
  | 0 => f 0
  | m + 1 => if f (m + 1) < mxZ f m then mxZ f m else f (m + 1)
theorem mxZ_rng {f : Nat → Int} {a b : Int} : ∀ {m : Nat}, (∀ i, i ≤ m → a ≤ f i ∧ f i ≤ b) → a ≤ mxZ f m ∧ mxZ f m ≤ b
  | 0, h => h 0 (Nat.le_refl 0)
  | m + 1, h => by
    have h1 := mxZ_rng (m := m) (fun i hi => h i (by omega))
    have h2 := h (m + 1) (Nat.le_refl _)
    unfold mxZ
    split <;> omega
/-- what is asked for a room -/
def ask (n : Nat) (W : Nat → Nat → Nat) (rent : Nat) (mo : Nat → Int) (r : Nat) : Int := prc W n rent r + mo r
def anyG (n : Nat) (W : Nat → Nat → Nat) (rent : Nat) (mo : Nat → Int) : Prop := ∃ i r, i < n ∧ r < n ∧ gn n W rent mo i (ow W n i) < gn n W rent mo i r
def topT (n : Nat) (W : Nat → Nat → Nat) (rent : Nat) (mo : Nat → Int) : Prop := mxZ (prc W n rent) (n - 1) < mxZ (ask n W rent mo) (n - 1)
def chkV (n : Nat) (W : Nat → Nat → Nat) (rent : Nat) (mo : Nat → Int) (v : Int32) : Prop := (¬ smZ (ask n W rent mo) n = (n : Int) * (rent : Int) → v = 1) ∧ (smZ (ask n W rent mo) n = (n : Int) * (rent : Int) → anyG n W rent mo → v = 2) ∧ (smZ (ask n W rent mo) n = (n : Int) * (rent : Int) → ¬ anyG n W rent mo → topT n W rent mo → v = 3) ∧ (smZ (ask n W rent mo) n = (n : Int) * (rent : Int) → ¬ anyG n W rent mo → ¬ topT n W rent mo → v = 0)
theorem chkV_one {n : Nat} {W : Nat → Nat → Nat} {rent : Nat} {mo : Nat → Int} {v w : Int32} (h : chkV n W rent mo v) (g : chkV n W rent mo w) : v = w := by
  by_cases h1 : smZ (ask n W rent mo) n = (n : Int) * (rent : Int)
  · by_cases h2 : anyG n W rent mo
    · rw [h.2.1 h1 h2, g.2.1 h1 h2]
    · by_cases h3 : topT n W rent mo
      · rw [h.2.2.1 h1 h2 h3, g.2.2.1 h1 h2 h3]
      · rw [h.2.2.2 h1 h2 h3, g.2.2.2 h1 h2 h3]
  · rw [h.1 h1, g.1 h1]
theorem zL_lt {a b : Int} (a1 : -1000000000 ≤ a) (a2 : a ≤ 1000000000) (b1 : -1000000000 ≤ b) (b2 : b ≤ 1000000000) : zL a < zL b ↔ a < b := by
  rw [ltL_T, zL_T (by omega) (by omega), zL_T (by omega) (by omega)]
theorem zL_le {a b : Int} (a1 : -1000000000 ≤ a) (a2 : a ≤ 1000000000) (b1 : -1000000000 ≤ b) (b2 : b ≤ 1000000000) : zL a ≤ zL b ↔ a ≤ b := by
  rw [leL_T, zL_T (by omega) (by omega), zL_T (by omega) (by omega)]
theorem zL_eq {a b : Int} (a1 : -1000000000 ≤ a) (a2 : a ≤ 1000000000) (b1 : -1000000000 ≤ b) (b2 : b ≤ 1000000000) : zL a = zL b ↔ a = b := by
  constructor
  · intro h
    have := congrArg Int64.toInt h
    rw [zL_T (by omega) (by omega), zL_T (by omega) (by omega)] at this
    exact this
  · intro h
    rw [h]
theorem ask_rng {W : Nat → Nat → Nat} {n : Nat} (hn1 : 1 ≤ n) (hn : n ≤ 5) (hW : ∀ i j, i < n → j < n → W i j ≤ 1000) {rent : Nat} (hr : rent ≤ 10000) {mo : Nat → Int} {r : Nat} (hrn : r < n) (hm : -100000 ≤ mo r ∧ mo r ≤ 100000) : -125000 ≤ ask n W rent mo r ∧ ask n W rent mo r ≤ 135000 := by
  have h1 := prc_rng hn1 hn hW hr hrn
  unfold ask
  omega
theorem gn_rng {W : Nat → Nat → Nat} {n : Nat} (hn1 : 1 ≤ n) (hn : n ≤ 5) (hW : ∀ i j, i < n → j < n → W i j ≤ 1000) {rent : Nat} (hr : rent ≤ 10000) {mo : Nat → Int} {p r : Nat} (hp : p < n) (hrn : r < n) (hm : -100000 ≤ mo r ∧ mo r ≤ 100000) : -200000 ≤ gn n W rent mo p r ∧ gn n W rent mo p r ≤ 200000 := by
  have h1 := prc_rng hn1 hn hW hr hrn
  have h2 := hW p r hp hrn
  have h3 := nmul_rng (z := (W p r : Int)) hn (a := 0) (b := 1000) (by omega) (by omega) (by omega) (by omega)
  unfold gn
  omega
abbrev ghH (M : Nat → Nat → Int32) (oa : Nat → Int32) (pr : Nat → Int64) (mo' : Nat → Int32) (ct re gr se : Int32) : xH := [rmO ct re gr se, gA 9 5 5 M, iA 11 5 oa, lA 13 5 pr, iA 14 5 mo']
theorem c_anyGrudge (l : Launch) (n : Nat) (W : Nat → Nat → Nat) (rent : Nat) (mo : Nat → Int) (M : Nat → Nat → Int32) (oa : Nat → Int32) (pr : Nat → Int64) (mo' : Nat → Int32) (ct re gr se : Int32) (hB : RB n W rent mo M mo' ct re) (hQ : RQ n W rent oa pr gr) : Ev l zX3_hasAnyGrudge [.inr (8, 0)] (ghH M oa pr mo' ct re gr se) (fun r h' => (∃ b : Bool, r = some (vI (b2i b)) ∧ (b = true ↔ anyG n W rent mo)) ∧ h' = ghH M oa pr mo' ct re gr se) := by
  obtain ⟨h1, h2, h3, rfl, h5, h6, h7⟩ := id hB
  have hW : ∀ i j, i < n → j < n → W i j ≤ 1000 := fun i j hi hj => (h6 i j hi hj).1
  have hrg : ∀ {p r : Nat}, p < n → r < n → -200000 ≤ gn n W rent mo p r ∧ gn n W rent mo p r ≤ 200000 := fun {p r} hp hr => gn_rng h1 h2 hW h3 hp hr ⟨(h7 r hr).1, (h7 r hr).2.1⟩
  refine ev_all okX3_hasAnyGrudge (by decide +kernel) (Nat.le_of_ble_eq_true rfl) ?_
  intro K hK
  have at2 : ∀ (e p : Nat), p + e = n → (∀ i r, i < p → r < n → ¬ gn n W rent mo i (ow W n i) < gn n W rent mo i r) → ∀ P : Int32, P = nI p → K 2 [(0, .inr (8, 0)), (1, vI P)] [] (ghH M oa pr mo' (nI n) re gr se) := by
    intro e
    induction e with
    | zero =>
      intro p hp hno P hP
      have hp : p = n := hp
      subst hp; subst hP
      refine hK [] 80 2 _ _ _ ?_
      refine And.intro (fun _ => ?_) (fun z => absurd (Int32.le_refl _) z)
      refine And.intro (Or.inl rfl) (And.intro ⟨⟨false, rfl, ⟨fun q => (by cases q), fun q => ?_⟩⟩, rfl⟩ rfl)
      obtain ⟨i, r, hi, hr, hlt⟩ := q
      exact absurd hlt (hno i r hi hr)
    | succ e ih =>
      intro p hp hno P hP
      subst hP
      have hpn : p < n := by omega
      have cp : (nI p).toNatClampNeg = p := nI_clamp (by omega)
      have at12 : ∀ (f r : Nat), r + f = n → (∀ q, q < r → ¬ gn n W rent mo p (ow W n p) < gn n W rent mo p q) → ∀ R : Int32, R = nI r → K 12 [(0, .inr (8, 0)), (1, vI (nI p)), (2, vI R)] [] (ghH M oa pr mo' (nI n) re gr se) := by
        intro f
        induction f with
        | zero =>
          intro r hr hno2 R hR
          have hr : r = n := hr
          subst hr; subst hR
          refine hK [(2, [0, 1])] 80 12 _ _ _ ?_
          refine And.intro (fun _ => ?_) (fun z => absurd (Int32.le_refl _) z)
          refine ih (p + 1) (by omega) (fun i q hi hq => ?_) _ (nI_1 p)
          by_cases ei : i = p
          · rw [ei]; exact hno2 q hq
          · exact hno i q (by omega) hq
        | succ f ihf =>
          intro r hr hno2 R hR
          subst hR
          have hrn : r < n := by omega
          refine hK [(12, [0, 1, 2])] 80 12 _ _ _ ?_
          refine And.intro (fun z => absurd z (nI_ge (by omega) (by omega))) (fun _ => ?_)
          refine ⟨[8, 9, 13, 14], _, c_gainAt l n h2 W rent mo M h6 pr mo' hQ.2.2 h7 re gr se p r hpn hrn _ _ rfl rfl, fun v hc' hP _ => ?_⟩
          obtain ⟨rfl, rfl⟩ := hP
          refine And.intro (vp_in_nI (by omega) (by omega)) ?_
          refine ⟨[8, 9, 13, 14], _, c_gainAt l n h2 W rent mo M h6 pr mo' hQ.2.2 h7 re gr se p (ow W n p) hpn (ow_lt h1 p) _ _ rfl (by show oa (nI p).toNatClampNeg = _; rw [cp]; exact hQ.2.1 p hpn), fun v hc' hP _ => ?_⟩
          obtain ⟨rfl, rfl⟩ := hP
          have r1 := hrg hpn hrn
          have r2 := hrg hpn (ow_lt (W := W) h1 p)
          refine And.intro (fun z => ?_) (fun z => ?_)
          · have z : zL (gn n W rent mo p r) ≤ zL (gn n W rent mo p (ow W n p)) := z
            rw [zL_le (by omega) (by omega) (by omega) (by omega)] at z
            refine ihf (r + 1) (by omega) (fun q hq => ?_) _ (nI_1 r)
            by_cases eq : q = r
            · rw [eq]; omega
            · exact hno2 q (by omega)
          · have z : ¬ zL (gn n W rent mo p r) ≤ zL (gn n W rent mo p (ow W n p)) := z
            rw [zL_le (by omega) (by omega) (by omega) (by omega)] at z
            exact And.intro (Or.inr rfl) (And.intro ⟨⟨true, rfl, ⟨fun _ => ⟨p, r, hpn, hrn, by omega⟩, fun _ => rfl⟩⟩, rfl⟩ rfl)
      refine hK [(12, [0, 1, 2])] 80 2 _ _ _ ?_
      refine And.intro (fun z => absurd z (nI_ge (by omega) (by omega))) (fun _ => ?_)
      exact at12 n 0 (by omega) (fun q hq => absurd hq (Nat.not_lt_zero q)) 0 rfl
  refine hK [(2, [0, 1])] 80 0 _ _ _ ?_
  exact at2 n 0 (by omega) (fun i r hi => absurd hi (Nat.not_lt_zero i)) 0 rfl
abbrev tpH (pr : Nat → Int64) (mo' : Nat → Int32) (ct re gr se : Int32) : xH := [rmO ct re gr se, lA 13 5 pr, iA 14 5 mo']
theorem mx_if {f : Nat → Int} {m : Nat} (h : ∀ i, i ≤ m + 1 → -1000000 ≤ f i ∧ f i ≤ 1000000) : (if zL (f (m + 1)) < zL (mxZ f m) then zL (mxZ f m) else zL (f (m + 1))) = zL (mxZ f (m + 1)) := by
  have h1 := mxZ_rng (f := f) (m := m) (fun i hi => h i (by omega))
  have h2 := h (m + 1) (Nat.le_refl _)
  show _ = zL (if f (m + 1) < mxZ f m then mxZ f m else f (m + 1))
  by_cases q : f (m + 1) < mxZ f m
  · rw [if_pos q, if_pos ((zL_lt (by omega) (by omega) (by omega) (by omega)).mpr q)]
  · rw [if_neg q, if_neg (fun w => q ((zL_lt (by omega) (by omega) (by omega) (by omega)).mp w))]
theorem c_topLess (l : Launch) (n : Nat) (W : Nat → Nat → Nat) (rent : Nat) (mo : Nat → Int) (M : Nat → Nat → Int32) (oa : Nat → Int32) (pr : Nat → Int64) (mo' : Nat → Int32) (ct re gr se : Int32) (hB : RB n W rent mo M mo' ct re) (hQ : RQ n W rent oa pr gr) : Ev l zX3_couldTopBeLess [.inr (8, 0)] (tpH pr mo' ct re gr se) (fun r h' => (∃ b : Bool, r = some (vI (b2i b)) ∧ (b = true ↔ topT n W rent mo)) ∧ h' = tpH pr mo' ct re gr se) := by
  obtain ⟨h1, h2, h3, rfl, h5, h6, h7⟩ := id hB
  have hW : ∀ i j, i < n → j < n → W i j ≤ 1000 := fun i j hi hj => (h6 i j hi hj).1
  have hpg : ∀ {r : Nat}, r < n → -1000000 ≤ prc W n rent r ∧ prc W n rent r ≤ 1000000 := fun {r} hr => by
    have := prc_rng h1 h2 hW h3 hr
    omega
  have hag : ∀ {r : Nat}, r < n → -1000000 ≤ ask n W rent mo r ∧ ask n W rent mo r ≤ 1000000 := fun {r} hr => by
    have := ask_rng h1 h2 hW h3 hr ⟨(h7 r hr).1, (h7 r hr).2.1⟩
    omega
  have c0 : (0 : Int32).toNatClampNeg = 0 := by decide
  refine ev_all okX3_couldTopBeLess (by decide +kernel) (Nat.le_of_ble_eq_true rfl) ?_
  intro K hK
  have loop : ∀ (e r : Nat), r + 1 + e = n → ∀ (A B : Int64) (R : Int32), A = zL (mxZ (prc W n rent) r) → B = zL (mxZ (ask n W rent mo) r) → R = nI (r + 1) → K 16 [(0, .inr (8, 0)), (1, vL A), (3, vL B), (5, vI R)] [] (tpH pr mo' (nI n) re gr se) := by
    intro e
    induction e with
    | zero =>
      intro r hr A B R hA hB2 hR
      have hr : r + 1 = n := hr
      subst hA; subst hB2; subst hR
      have g1 := mxZ_rng (f := prc W n rent) (m := r) (fun i hi => hpg (by omega))
      have g2 := mxZ_rng (f := ask n W rent mo) (m := r) (fun i hi => hag (by omega))
      refine hK [] 80 16 _ _ _ ?_
      refine And.intro (fun _ => ?_) (fun z => absurd (by show nI n ≤ nI (r + 1); rw [hr]; exact Int32.le_refl _) z)
      have ht : topT n W rent mo ↔ mxZ (prc W n rent) r < mxZ (ask n W rent mo) r := by
        unfold topT
        rw [show n - 1 = r by omega]
      refine And.intro (fun z => ?_) (fun z => ?_)
      · have z : zL (mxZ (ask n W rent mo) r) ≤ zL (mxZ (prc W n rent) r) := z
        rw [zL_le (by omega) (by omega) (by omega) (by omega)] at z
        refine And.intro (Or.inl rfl) (And.intro ⟨⟨false, rfl, ⟨fun q => (by cases q), fun q => ?_⟩⟩, rfl⟩ rfl)
        rw [ht] at q
        omega
      · have z : ¬ zL (mxZ (ask n W rent mo) r) ≤ zL (mxZ (prc W n rent) r) := z
        rw [zL_le (by omega) (by omega) (by omega) (by omega)] at z
        exact And.intro (Or.inr rfl) (And.intro ⟨⟨true, rfl, ⟨fun _ => ht.mpr (by omega), fun _ => rfl⟩⟩, rfl⟩ rfl)
    | succ e ih =>
      intro r hr A B R hA hB2 hR
      subst hA; subst hB2; subst hR
      have cr : (nI (r + 1)).toNatClampNeg = r + 1 := nI_clamp (by omega)
      refine hK [(16, [0, 1, 3, 5])] 80 16 _ _ _ ?_
      refine And.intro (fun z => absurd z (nI_ge (by omega) (by omega))) (fun _ => ?_)
      refine And.intro (vp_in_nI (by omega) (by omega)) ?_
      refine ⟨[8, 13, 14], _, c_asked l n h2 W rent mo pr mo' hQ.2.2 h7 (nI n) re gr se (r + 1) (by omega) _ rfl, fun v hc' hP _ => ?_⟩
      obtain ⟨rfl, rfl⟩ := hP
      refine ih (r + 1) (by omega) _ _ _ ?_ ?_ (nI_1 (r + 1))
      · show (if pr (nI (r + 1)).toNatClampNeg < zL (mxZ (prc W n rent) r) then zL (mxZ (prc W n rent) r) else pr (nI (r + 1)).toNatClampNeg) = _
        rw [cr, hQ.2.2 (r + 1) (by omega)]
        exact mx_if (fun i hi => hpg (by omega))
      · exact mx_if (f := ask n W rent mo) (fun i hi => hag (by omega))
  refine hK [(16, [0, 1, 3, 5])] 80 0 _ _ _ ?_
  refine And.intro (show vp_in (nI 0) 5 from vp_in_nI (by omega) (by omega)) ?_
  refine ⟨[8, 13, 14], _, c_asked l n h2 W rent mo pr mo' hQ.2.2 h7 (nI n) re gr se 0 (by omega) _ rfl, fun v hc' hP _ => ?_⟩
  obtain ⟨rfl, rfl⟩ := hP
  refine loop (n - 1) 0 (by omega) _ _ _ ?_ rfl rfl
  show pr (0 : Int32).toNatClampNeg = _
  rw [c0, hQ.2.2 0 (by omega)]
  rfl
theorem c_check (l : Launch) (n : Nat) (W : Nat → Nat → Nat) (rent : Nat) (mo : Nat → Int) (h : xH) (hH : RH n W rent mo h) : Ev l zX3_faultOfRents [.inr (8, 0)] h (fun r h' => (∃ v : Int32, r = some (vI v) ∧ chkV n W rent mo v) ∧ RH n W rent mo h') := by
  obtain ⟨M, tr, ow', be, pr, mo', ct, re, gr, se, rfl, hB, hS⟩ := hH
  refine ev_all okX3_faultOfRents (by decide +kernel) (Nat.le_of_ble_eq_true rfl) ?_
  intro K hK
  refine hK [(8, [0, 1, 3])] 80 0 _ _ _ ?_
  refine ⟨[8, 9, 10, 11, 12, 13, 14], _, c_settle l n W rent mo M tr ow' be pr mo' ct re gr se hB hS, fun r hc' hP _ => ?_⟩
  obtain ⟨rfl, tr, ow', be, pr, gr, hQ, rfl⟩ := hP
  obtain ⟨h1, h2, h3, rfl, rfl, h6, h7⟩ := id hB
  have hW : ∀ i j, i < n → j < n → W i j ≤ 1000 := fun i j hi hj => (h6 i j hi hj).1
  have hag : ∀ {r : Nat}, r < n → -125000 ≤ ask n W rent mo r ∧ ask n W rent mo r ≤ 135000 := fun {r} hr => ask_rng h1 h2 hW h3 hr ⟨(h7 r hr).1, (h7 r hr).2.1⟩
  have loop : ∀ (e r : Nat), r + e = n → ∀ (S : Int64) (R : Int32), S = zL (smZ (ask n W rent mo) r) → R = nI r → K 8 [(0, .inr (8, 0)), (1, vL S), (3, vI R)] [] (rmH M tr ow' be pr mo' (nI n) (nI rent) gr 1) := by
    intro e
    induction e with
    | zero =>
      intro r hr S R hS hR
      have hr : r = n := hr
      subst hr; subst hS; subst hR
      have g1 := smZ_rng (f := ask r W rent mo) (n := r) (a := -125000) (b := 135000) (fun i hi => hag hi)
      have g2 := nmul_rng (z := (rent : Int)) h2 (a := 0) (b := 10000) (by omega) (by omega) (by omega) (by omega)
      have hmul : (nI r).toInt64 * (nI rent).toInt64 = zL ((r : Int) * (rent : Int)) := by rw [zL_nI (by omega), zL_nI (by omega), zL_mul]
      have hEq : zL (smZ (ask r W rent mo) r) = (nI r).toInt64 * (nI rent).toInt64 ↔ smZ (ask r W rent mo) r = (r : Int) * (rent : Int) := by
        rw [hmul]
        exact zL_eq (by omega) (by omega) (by omega) (by omega)
      refine hK [] 80 8 _ _ _ ?_
      refine And.intro (fun _ => ?_) (fun z => absurd (Int32.le_refl _) z)
      refine And.intro (fun z => ?_) (fun z => ?_)
      · have z := hEq.mp z
        refine ⟨[8, 9, 11, 13, 14], _, c_anyGrudge l r W rent mo M ow' pr mo' (nI r) (nI rent) gr 1 hB hQ, fun v hc' hP _ => ?_⟩
        obtain ⟨⟨b, rfl, hb⟩, rfl⟩ := hP
        refine And.intro (fun q => ?_) (fun q => ?_)
        · have q := b2i0 q
          have hnG : ¬ anyG r W rent mo := fun w => by
            have := hb.mpr w
            rw [q] at this
            cases this
          refine ⟨[8, 13, 14], _, c_topLess l r W rent mo M ow' pr mo' (nI r) (nI rent) gr 1 hB hQ, fun v hc' hP _ => ?_⟩
          obtain ⟨⟨b2, rfl, hb2⟩, rfl⟩ := hP
          refine And.intro (fun q2 => ?_) (fun q2 => ?_)
          · have q2 := b2i0 q2
            have hnT : ¬ topT r W rent mo := fun w => by
              have := hb2.mpr w
              rw [q2] at this
              cases this
            exact And.intro ⟨⟨0, rfl, fun w => absurd z w, fun _ w => absurd w hnG, fun _ _ w => absurd w hnT, fun _ _ _ => rfl⟩, RH_of hB hQ⟩ rfl
          · have q2 := hb2.mp (b2i1 q2)
            exact And.intro ⟨⟨3, rfl, fun w => absurd z w, fun _ w => absurd w hnG, fun _ _ _ => rfl, fun _ _ w => absurd q2 w⟩, RH_of hB hQ⟩ rfl
        · have q := hb.mp (b2i1 q)
          exact And.intro ⟨⟨2, rfl, fun w => absurd z w, fun _ _ => rfl, fun _ w => absurd q w, fun _ w => absurd q w⟩, RH_of hB hQ⟩ rfl
      · have z : ¬ smZ (ask r W rent mo) r = (r : Int) * (rent : Int) := fun w => z (hEq.mpr w)
        exact And.intro ⟨⟨1, rfl, fun _ => rfl, fun w => absurd w z, fun w => absurd w z, fun w => absurd w z⟩, RH_of hB hQ⟩ rfl
    | succ e ih =>
      intro r hr S R hS hR
      subst hS; subst hR
      refine hK [(8, [0, 1, 3])] 80 8 _ _ _ ?_
      refine And.intro (fun z => absurd z (nI_ge (by omega) (by omega))) (fun _ => ?_)
      refine ⟨[8, 13, 14], _, c_asked l n h2 W rent mo pr mo' hQ.2.2 h7 (nI n) (nI rent) gr 1 r (by omega) _ rfl, fun v hc' hP _ => ?_⟩
      obtain ⟨rfl, rfl⟩ := hP
      refine ih (r + 1) (by omega) _ _ ?_ (nI_1 r)
      show zL (smZ (ask n W rent mo) r) + zL (prc W n rent r + mo r) = zL (smZ (ask n W rent mo) r + ask n W rent mo r)
      rw [zL_add]
      rfl
  exact loop n 0 (by omega) 0 0 rfl rfl
