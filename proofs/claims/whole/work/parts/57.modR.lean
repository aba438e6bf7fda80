/-! ===== the reference: its rooms ===== -/
abbrev mo1 (th : Int32) (nk nt rm : Nat → Int32) (ln : Int32) (lg : Nat → Int64) : xH := [mdO th nk nt rm ln lg]
abbrev mrH (th : Int32) (nk nt rm : Nat → Int32) (ln : Int32) (lg : Nat → Int64) (wa ta ha tr be : Nat → Int32) (pr : Nat → Int64) : xH := [mdO th nk nt rm ln lg, iA 47 25 wa, iA 48 5 ta, iA 49 5 ha, iA 50 5 tr, iA 51 5 be, lA 52 5 pr]
def MRW (n : Nat) (W : Nat → Nat → Nat) (wa : Nat → Int32) : Prop := ∀ i j, i < n → j < n → W i j ≤ 1000 ∧ wa (5 * i + j) = nI (W i j)
def MRT (n : Nat) (mo : Nat → Int) (ta : Nat → Int32) : Prop := ∀ r, r < n → -100000 ≤ mo r ∧ mo r ≤ 100000 ∧ ta r = zI (mo r)
def MRB (n : Nat) (W : Nat → Nat → Nat) (rent : Nat) (mo : Nat → Int) (rm wa ta : Nat → Int32) : Prop := 1 ≤ n ∧ n ≤ 5 ∧ rent ≤ 10000 ∧ rm 0 = nI n ∧ rm 1 = nI rent ∧ MRW n W wa ∧ MRT n mo ta
def MR (n : Nat) (W : Nat → Nat → Nat) (rent : Nat) (mo : Nat → Int) (nk nt : Nat → Int32) (ln : Int32) (lg : Nat → Int64) (h : xH) : Prop := ∃ (th : Int32) (rm wa ta ha tr be : Nat → Int32) (pr : Nat → Int64), h = mrH th nk nt rm ln lg wa ta ha tr be pr ∧ MRB n W rent mo rm wa ta
theorem m_isOne (l : Launch) (n : Nat) (hn : n ≤ 5) (th : Int32) (nk nt rm : Nat → Int32) (ln : Int32) (lg : Nat → Int64) (hr : rm 0 = nI n) (x : Int32) : Ev l zX5_isOne [.inr (40, 0), vI x] (mo1 th nk nt rm ln lg) (fun r h' => r = some (vI (b2i (is1 n x))) ∧ h' = mo1 th nk nt rm ln lg) := by
  have hT : (rm 0).toInt = (n : Int) := by rw [hr]; exact nI_toInt (by omega)
  refine ev_run okX5_isOne (by decide +kernel) (Nat.le_of_ble_eq_true rfl) 60 ?_
  refine And.intro (fun q => ?_) (fun q => And.intro (fun q2 => ?_) (fun q2 => ?_))
  · have q : x.toInt < 0 := lt_T.mp q
    have e : is1 n x = false := decide_eq_false (by omega)
    exact And.intro (Or.inl rfl) (And.intro ⟨by rw [e]; rfl, rfl⟩ rfl)
  · have q2 : (rm 0).toInt ≤ x.toInt := le_T.mp q2
    rw [hT] at q2
    have e : is1 n x = false := decide_eq_false (by omega)
    exact And.intro (Or.inl rfl) (And.intro ⟨by rw [e]; rfl, rfl⟩ rfl)
  · have q : ¬ x.toInt < 0 := fun w => q (lt_T.mpr w)
    have q2 : ¬ (rm 0).toInt ≤ x.toInt := fun w => q2 (le_T.mpr w)
    rw [hT] at q2
    have e : is1 n x = true := decide_eq_true (by omega)
    exact And.intro (Or.inr rfl) (And.intro ⟨by rw [e]; rfl, rfl⟩ rfl)
theorem m_turnsBack (l : Launch) (th : Int32) (nk nt rm : Nat → Int32) (ln : Int32) (lg : Nat → Int64) (ta : Nat → Int32) : Ev l zX5_turnsBack [.inr (40, 0)] [mdO th nk nt rm ln lg, iA 48 5 ta] (fun r h' => r = none ∧ ∃ ta' : Nat → Int32, (∀ r, r < 5 → ta' r = 0) ∧ h' = [mdO th nk nt rm ln lg, iA 48 5 ta']) := by
  refine ev_all okX5_turnsBack (by decide +kernel) (Nat.le_of_ble_eq_true rfl) ?_
  intro K hK
  have loop : ∀ (e k : Nat), k + e = 5 → ∀ (ta : Nat → Int32), (∀ j, j < k → ta j = 0) → ∀ X : Int32, X = nI k → K 2 [(0, .inr (40, 0)), (1, vI X)] [] [mdO th nk nt rm ln lg, iA 48 5 ta] := by
    intro e
    induction e with
    | zero =>
      intro k hk ta hta X hX
      have hk : k = 5 := hk
      subst hk; subst hX
      refine hK [] 60 2 _ _ _ ?_
      refine And.intro (fun _ => ?_) (fun z => absurd (Int32.le_refl _) z)
      exact And.intro ⟨rfl, ta, hta, rfl⟩ rfl
    | succ e ih =>
      intro k hk ta hta X hX
      subst hX
      have ck : (nI k).toNatClampNeg = k := nI_clamp (by omega)
      refine hK [(2, [0, 1])] 60 2 _ _ _ ?_
      refine And.intro (fun z => absurd (show nI 5 ≤ nI k from z) (nI_ge (by omega) (by omega))) (fun _ => ?_)
      refine And.intro (vp_in_nI (by omega) (by omega)) ?_
      refine ih (k + 1) (by omega) _ (fun j hj => ?_) _ (nI_1 k)
      rw [ck]
      by_cases ej : j = k
      · rw [ej, pk_us]
      · rw [pk_un ej]
        exact hta j (by omega)
  refine hK [(2, [0, 1])] 60 0 _ _ _ ?_
  exact loop 5 0 (by omega) ta (fun j hj => absurd hj (Nat.not_lt_zero j)) 0 rfl
theorem MRT_0 {n : Nat} (hn : n ≤ 5) {ta : Nat → Int32} (h : ∀ r, r < 5 → ta r = 0) : MRT n mo0 ta := fun r hr => ⟨by show (-100000 : Int) ≤ 0; omega, by show (0 : Int) ≤ 100000; omega, by rw [h r (by omega)]; rfl⟩
theorem m_rent (l : Launch) (n : Nat) (W : Nat → Nat → Nat) (rent : Nat) (mo : Nat → Int) (nk nt : Nat → Int32) (ln : Int32) (lg : Nat → Int64) (h : xH) (hH : MR n W rent mo nk nt ln lg h) (w : Int32) : Ev l zX5_rent [.inr (40, 0), vI w] h (fun r h' => r = some (vI (b2i (okRent w))) ∧ MR n W (sRent rent w) (moIf (okRent w) mo) nk nt ln lg h') := by
  obtain ⟨th, rm, wa, ta, ha, tr, be, pr, rfl, hB⟩ := hH
  have no : okRent w = false → MR n W (sRent rent w) (moIf (okRent w) mo) nk nt ln lg (mrH 0 nk nt rm ln lg wa ta ha tr be pr) := fun q => by
    unfold sRent moIf
    rw [q]
    exact ⟨0, rm, wa, ta, ha, tr, be, pr, rfl, hB⟩
  refine ev_run okX5_rent (by decide +kernel) (Nat.le_of_ble_eq_true rfl) 60 ?_
  refine And.intro (fun q => ?_) (fun q => And.intro (fun q2 => ?_) (fun q2 => ?_))
  · have q : w.toInt < 0 := lt_T.mp q
    have e : okRent w = false := decide_eq_false (by omega)
    exact And.intro (Or.inl rfl) (And.intro ⟨by rw [e]; rfl, no e⟩ rfl)
  · have q : ¬ w.toInt < 0 := fun z => q (lt_T.mpr z)
    have q2 : w.toInt ≤ 10000 := le_T.mp q2
    have e : okRent w = true := decide_eq_true (by omega)
    obtain ⟨k, hk, rfl, hkt⟩ := nI_arg (x := w) (by omega)
    refine ⟨[40, 48], _, m_turnsBack l 0 nk nt (upd rm 1 (nI k)) ln lg ta, fun r hc' hP _ => ?_⟩
    obtain ⟨rfl, ta', hta, rfl⟩ := hP
    refine And.intro (Or.inr rfl) (And.intro ⟨by rw [e]; rfl, ?_⟩ rfl)
    have e1 : sRent rent (nI k) = k := by unfold sRent; rw [e, if_pos rfl, hkt]; rfl
    have e2 : moIf (okRent (nI k)) mo = mo0 := by unfold moIf; rw [e]; rfl
    rw [e1, e2]
    obtain ⟨h1, h2, h3, h4, h5, h6, h7⟩ := hB
    exact ⟨0, upd rm 1 (nI k), wa, ta', ha, tr, be, pr, rfl, h1, h2, by omega, by rw [pk_un (by omega)]; exact h4, pk_us, h6, MRT_0 h2 hta⟩
  · have q2 : ¬ w.toInt ≤ 10000 := fun z => q2 (le_T.mpr z)
    have e : okRent w = false := decide_eq_false (by omega)
    exact And.intro (Or.inl rfl) (And.intro ⟨by rw [e]; rfl, no e⟩ rfl)
theorem m_turned (l : Launch) (n : Nat) (W : Nat → Nat → Nat) (rent : Nat) (mo : Nat → Int) (nk nt : Nat → Int32) (ln : Int32) (lg : Nat → Int64) (h : xH) (hH : MR n W rent mo nk nt ln lg h) (x w : Int32) : Ev l zX5_turned [.inr (40, 0), vI x, vI w] h (fun r h' => r = some (vI (b2i (okTurn n x w))) ∧ MR n W rent (sTurn n mo x w) nk nt ln lg h') := by
  obtain ⟨th, rm, wa, ta, ha, tr, be, pr, rfl, hB⟩ := hH
  have no : okTurn n x w = false → MR n W rent (sTurn n mo x w) nk nt ln lg (mrH 0 nk nt rm ln lg wa ta ha tr be pr) := fun q => by
    unfold sTurn
    rw [q]
    exact ⟨0, rm, wa, ta, ha, tr, be, pr, rfl, hB⟩
  obtain ⟨h1, h2, h3, h4, h5, h6, h7⟩ := id hB
  have tlo : (-100000 : Int32).toInt = -100000 := by decide
  have thi : (100000 : Int32).toInt = 100000 := by decide
  refine ev_run okX5_turned (by decide +kernel) (Nat.le_of_ble_eq_true rfl) 60 ?_
  refine ⟨[40], _, m_isOne l n h2 0 nk nt rm ln lg h4 x, fun r hc' hP _ => ?_⟩
  obtain ⟨rfl, rfl⟩ := hP
  refine And.intro (fun q => ?_) (fun q => And.intro (fun q1 => ?_) (fun q1 => And.intro (fun q2 => ?_) (fun q2 => ?_)))
  · have e : okTurn n x w = false := by unfold okTurn; rw [b2i0 q]; rfl
    exact And.intro (Or.inl rfl) (And.intro ⟨by rw [e]; rfl, no e⟩ rfl)
  · have q1 : w.toInt < (-100000 : Int32).toInt := lt_T.mp q1
    rw [tlo] at q1
    have e : okTurn n x w = false := by unfold okTurn; rw [decide_eq_false (by omega), Bool.and_false]
    exact And.intro (Or.inl rfl) (And.intro ⟨by rw [e]; rfl, no e⟩ rfl)
  · have q1 : ¬ w.toInt < (-100000 : Int32).toInt := fun z => q1 (lt_T.mpr z)
    have q2 : w.toInt ≤ (100000 : Int32).toInt := le_T.mp q2
    rw [tlo] at q1
    rw [thi] at q2
    have q := b2i1 q
    have e : okTurn n x w = true := by unfold okTurn; rw [q, decide_eq_true (by omega)]; rfl
    obtain ⟨k, hk, rfl, hkt⟩ := is1_of q
    refine And.intro (vp_in_nI (by omega) (by omega)) (And.intro (Or.inr rfl) (And.intro ⟨by rw [e]; rfl, ?_⟩ rfl))
    have e1 : sTurn n mo (nI k) w = upZ mo k w.toInt := by unfold sTurn; rw [e, if_pos rfl, hkt]; rfl
    rw [e1]
    refine ⟨0, rm, wa, upd ta (nI k).toNatClampNeg w, ha, tr, be, pr, rfl, h1, h2, h3, h4, h5, h6, fun r hr => ?_⟩
    rw [nI_clamp (by omega)]
    unfold upZ
    by_cases er : r = k
    · subst er
      rw [if_pos rfl, pk_us, zI_self]
      exact ⟨by omega, by omega, rfl⟩
    · rw [if_neg er, pk_un er]
      exact h7 r hr
  · have q2 : ¬ w.toInt ≤ (100000 : Int32).toInt := fun z => q2 (le_T.mpr z)
    rw [thi] at q2
    have e : okTurn n x w = false := by unfold okTurn; rw [decide_eq_false (by omega), Bool.and_false]
    exact And.intro (Or.inl rfl) (And.intro ⟨by rw [e]; rfl, no e⟩ rfl)
theorem idx5 {a b : Nat} (ha : a < 5) (hb : b < 5) : 5 * nI a + nI b = nI (5 * a + b) ∧ (nI (5 * a + b)).toNatClampNeg = 5 * a + b ∧ vp_in (nI (5 * a + b)) 25 := by
  refine ⟨?_, nI_clamp (by omega), vp_in_nI (by omega) (by omega)⟩
  rw [show (5 : Int32) = nI 5 from rfl, pk_mul, nI_add]
theorem idx5_v {a b : Nat} (ha : a < 5) (hb : b < 5) : vp_in (5 * nI a + nI b) 25 ∧ (5 * nI a + nI b).toNatClampNeg = 5 * a + b := by
  obtain ⟨i1, i2, i3⟩ := idx5 ha hb
  rw [i1]
  exact ⟨i3, i2⟩
theorem m_room (l : Launch) (n : Nat) (W : Nat → Nat → Nat) (rent : Nat) (mo : Nat → Int) (nk nt : Nat → Int32) (ln : Int32) (lg : Nat → Int64) (h : xH) (hH : MR n W rent mo nk nt ln lg h) (p r w : Int32) : Ev l zX5_room [.inr (40, 0), vI p, vI r, vI w] h (fun v h' => v = some (vI (b2i (okRoom n p r w))) ∧ MR n (sRoom n W p r w) rent (moIf (okRoom n p r w) mo) nk nt ln lg h') := by
  obtain ⟨th, rm, wa, ta, ha, tr, be, pr, rfl, hB⟩ := hH
  have no : okRoom n p r w = false → MR n (sRoom n W p r w) rent (moIf (okRoom n p r w) mo) nk nt ln lg (mrH 0 nk nt rm ln lg wa ta ha tr be pr) := fun q => by
    unfold sRoom moIf
    rw [q]
    exact ⟨0, rm, wa, ta, ha, tr, be, pr, rfl, hB⟩
  obtain ⟨h1, h2, h3, h4, h5, h6, h7⟩ := id hB
  refine ev_run okX5_room (by decide +kernel) (Nat.le_of_ble_eq_true rfl) 60 ?_
  refine ⟨[40], _, m_isOne l n h2 0 nk nt rm ln lg h4 p, fun v hc' hP _ => ?_⟩
  obtain ⟨rfl, rfl⟩ := hP
  refine And.intro (fun q => ?_) (fun q => ?_)
  · have e : okRoom n p r w = false := by unfold okRoom; rw [b2i0 q]; rfl
    exact And.intro (Or.inl rfl) (And.intro ⟨by rw [e]; rfl, no e⟩ rfl)
  refine ⟨[40], _, m_isOne l n h2 0 nk nt rm ln lg h4 r, fun v hc' hP _ => ?_⟩
  obtain ⟨rfl, rfl⟩ := hP
  refine And.intro (fun q1 => ?_) (fun q1 => And.intro (fun q2 => ?_) (fun q2 => And.intro (fun q3 => ?_) (fun q3 => ?_)))
  · have e : okRoom n p r w = false := by unfold okRoom; rw [b2i0 q1, Bool.and_false]; rfl
    exact And.intro (Or.inl rfl) (And.intro ⟨by rw [e]; rfl, no e⟩ rfl)
  · have q2 : w.toInt < 0 := lt_T.mp q2
    have e : okRoom n p r w = false := by unfold okRoom; rw [decide_eq_false (by omega), Bool.and_false]
    exact And.intro (Or.inl rfl) (And.intro ⟨by rw [e]; rfl, no e⟩ rfl)
  · have q2 : ¬ w.toInt < 0 := fun z => q2 (lt_T.mpr z)
    have q3 : w.toInt ≤ 1000 := le_T.mp q3
    have q := b2i1 q
    have q1 := b2i1 q1
    have e : okRoom n p r w = true := by unfold okRoom; rw [q, q1, decide_eq_true (by omega)]; rfl
    obtain ⟨a, ha, rfl, hat⟩ := is1_of q
    obtain ⟨b, hb, rfl, hbt⟩ := is1_of q1
    obtain ⟨c, hc, rfl, hct⟩ := nI_arg (x := w) (by omega)
    obtain ⟨i1, i2⟩ := idx5_v (a := a) (b := b) (by omega) (by omega)
    refine And.intro i1 ?_
    refine ⟨[40, 48], _, m_turnsBack l 0 nk nt rm ln lg ta, fun r hc' hP _ => ?_⟩
    obtain ⟨rfl, ta', hta, rfl⟩ := hP
    refine And.intro (Or.inr rfl) (And.intro ⟨by rw [e]; rfl, ?_⟩ rfl)
    have e1 : sRoom n W (nI a) (nI b) (nI c) = upM W a b c := by unfold sRoom; rw [e, if_pos rfl, hat, hbt, hct]; rfl
    have e2 : moIf (okRoom n (nI a) (nI b) (nI c)) mo = mo0 := by unfold moIf; rw [e]; rfl
    rw [e1, e2]
    refine ⟨0, rm, upd wa (5 * nI a + nI b).toNatClampNeg (nI c), ta', _, _, _, _, rfl, h1, h2, h3, h4, h5, fun i j hi hj => ?_, MRT_0 h2 hta⟩
    rw [i2]
    unfold upM
    by_cases eij : i = a ∧ j = b
    · rw [if_pos eij, eij.1, eij.2, pk_us]
      exact ⟨by omega, rfl⟩
    · rw [if_neg eij, pk_un (by omega)]
      exact h6 i j hi hj
  · have q3 : ¬ w.toInt ≤ 1000 := fun z => q3 (le_T.mpr z)
    have e : okRoom n p r w = false := by unfold okRoom; rw [decide_eq_false (by omega), Bool.and_false]
    exact And.intro (Or.inl rfl) (And.intro ⟨by rw [e]; rfl, no e⟩ rfl)
/-! people: the rooms and the line begin anew -/
def okPeople (x : Int32) : Bool := decide (1 ≤ x.toInt ∧ x.toInt ≤ 5)
abbrev mpH (th : Int32) (nk nt rm : Nat → Int32) (ln : Int32) (lg : Nat → Int64) (wa ta sa : Nat → Int32) : xH := [mdO th nk nt rm ln lg, iA 47 25 wa, iA 48 5 ta, iA 53 150 sa]
theorem m_people (l : Launch) (th : Int32) (nk nt rm : Nat → Int32) (ln : Int32) (lg : Nat → Int64) (wa ta sa : Nat → Int32) (x : Int32) : Ev l zX5_people [.inr (40, 0), vI x] (mpH th nk nt rm ln lg wa ta sa) (fun r h' => (okPeople x = false ∧ r = some (vI 0) ∧ h' = mpH 0 nk nt rm ln lg wa ta sa) ∨ (okPeople x = true ∧ r = some (vI 1) ∧ ∃ wa' ta' sa' : Nat → Int32, (∀ j, j < 25 → wa' j = 0) ∧ (∀ j, j < 5 → ta' j = 0) ∧ (∀ j, j < 150 → sa' j = 0) ∧ h' = mpH 0 nk nt (upd (upd rm 0 x) 1 0) ln lg wa' ta' sa')) := by
  refine ev_all okX5_people (by decide +kernel) (Nat.le_of_ble_eq_true rfl) ?_
  intro K hK
  have at50 : okPeople x = true → ∀ (wa : Nat → Int32), (∀ j, j < 25 → wa j = 0) → ∀ (e k : Nat), k + e = 150 → ∀ (sa : Nat → Int32), (∀ j, j < k → sa j = 0) → ∀ X : Int32, X = nI k → K 50 [(0, .inr (40, 0)), (1, vI x), (2, vI X)] [] (mpH 0 nk nt (upd (upd rm 0 x) 1 0) ln lg wa ta sa) := by
    intro hok wa hwa e
    induction e with
    | zero =>
      intro k hk sa hsa X hX
      have hk : k = 150 := hk
      subst hk; subst hX
      refine hK [] 60 50 _ _ _ ?_
      refine And.intro (fun _ => ?_) (fun z => absurd (Int32.le_refl _) z)
      refine ⟨[40, 48], _, m_turnsBack l 0 nk nt (upd (upd rm 0 x) 1 0) ln lg ta, fun r hc' hP _ => ?_⟩
      obtain ⟨rfl, ta', hta, rfl⟩ := hP
      exact And.intro (Or.inr rfl) (And.intro (Or.inr ⟨hok, rfl, wa, ta', sa, hwa, hta, hsa, rfl⟩) rfl)
    | succ e ih =>
      intro k hk sa hsa X hX
      subst hX
      have ck : (nI k).toNatClampNeg = k := nI_clamp (by omega)
      refine hK [(50, [0, 1, 2])] 60 50 _ _ _ ?_
      refine And.intro (fun z => absurd (show nI 150 ≤ nI k from z) (nI_ge (by omega) (by omega))) (fun _ => ?_)
      refine And.intro (vp_in_nI (by omega) (by omega)) ?_
      refine ih (k + 1) (by omega) _ (fun j hj => ?_) _ (nI_1 k)
      rw [ck]
      by_cases ej : j = k
      · rw [ej, pk_us]
      · rw [pk_un ej]
        exact hsa j (by omega)
  have at29 : okPeople x = true → ∀ (e k : Nat), k + e = 25 → ∀ (wa : Nat → Int32), (∀ j, j < k → wa j = 0) → ∀ X : Int32, X = nI k → K 29 [(0, .inr (40, 0)), (1, vI x), (2, vI X)] [] (mpH 0 nk nt (upd (upd rm 0 x) 1 0) ln lg wa ta sa) := by
    intro hok e
    induction e with
    | zero =>
      intro k hk wa hwa X hX
      have hk : k = 25 := hk
      subst hk; subst hX
      refine hK [(50, [0, 1, 2])] 60 29 _ _ _ ?_
      refine And.intro (fun _ => ?_) (fun z => absurd (Int32.le_refl _) z)
      exact at50 hok wa hwa 150 0 (by omega) sa (fun j hj => absurd hj (Nat.not_lt_zero j)) 0 rfl
    | succ e ih =>
      intro k hk wa hwa X hX
      subst hX
      have ck : (nI k).toNatClampNeg = k := nI_clamp (by omega)
      refine hK [(29, [0, 1, 2])] 60 29 _ _ _ ?_
      refine And.intro (fun z => absurd (show nI 25 ≤ nI k from z) (nI_ge (by omega) (by omega))) (fun _ => ?_)
      refine And.intro (vp_in_nI (by omega) (by omega)) ?_
      refine ih (k + 1) (by omega) _ (fun j hj => ?_) _ (nI_1 k)
      rw [ck]
      by_cases ej : j = k
      · rw [ej, pk_us]
      · rw [pk_un ej]
        exact hwa j (by omega)
  refine hK [(29, [0, 1, 2])] 60 0 _ _ _ ?_
  refine And.intro (fun q => ?_) (fun q => And.intro (fun q2 => ?_) (fun q2 => ?_))
  · have q : x.toInt < 1 := lt_T.mp q
    have e : okPeople x = false := decide_eq_false (by omega)
    exact And.intro (Or.inl rfl) (And.intro (Or.inl ⟨e, rfl, rfl⟩) rfl)
  · have q : ¬ x.toInt < 1 := fun z => q (lt_T.mpr z)
    have q2 : x.toInt ≤ 5 := le_T.mp q2
    have e : okPeople x = true := decide_eq_true (by omega)
    exact at29 e 25 0 (by omega) wa (fun j hj => absurd hj (Nat.not_lt_zero j)) 0 rfl
  · have q2 : ¬ x.toInt ≤ 5 := fun z => q2 (le_T.mpr z)
    have e : okPeople x = false := decide_eq_false (by omega)
    exact And.intro (Or.inl rfl) (And.intro (Or.inl ⟨e, rfl, rfl⟩) rfl)
