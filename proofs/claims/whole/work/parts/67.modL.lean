/-! ===== the reference: its line ===== -/
abbrev mlH (th : Int32) (nk nt rm : Nat → Int32) (ln : Int32) (lg : Nat → Int64) (sa wh : Nat → Int32) (up lo : Nat → Int64) : xH := [mdO th nk nt rm ln lg, iA 53 150 sa, iA 54 5 wh, lA 55 5 up, lA 56 5 lo]
def MLS (n L : Nat) (S : Nat → Nat → Nat) (sa : Nat → Int32) : Prop := ∀ p j, p < n → j < L → S p j ≤ 30 ∧ sa (30 * p + j) = nI (S p j)
def MLB (n L : Nat) (S : Nat → Nat → Nat) (rm : Nat → Int32) (ln : Int32) (sa : Nat → Int32) : Prop := 1 ≤ n ∧ n ≤ 5 ∧ 1 ≤ L ∧ L ≤ 30 ∧ rm 0 = nI n ∧ ln = nI L ∧ MLS n L S sa
def ML (n L : Nat) (S : Nat → Nat → Nat) (nk nt rm : Nat → Int32) (h : xH) : Prop := ∃ (th ln : Int32) (lg : Nat → Int64) (sa wh : Nat → Int32) (up lo : Nat → Int64), h = mlH th nk nt rm ln lg sa wh up lo ∧ MLB n L S rm ln sa
theorem idx30_v {a b : Nat} (ha : a < 5) (hb : b < 30) : vp_in (30 * nI a + nI b) 150 ∧ (30 * nI a + nI b).toNatClampNeg = 30 * a + b := by
  rw [show (30 : Int32) = nI 30 from rfl, pk_mul, nI_add]
  exact ⟨vp_in_nI (by omega) (by omega), nI_clamp (by omega)⟩
theorem m_line (l : Launch) (n L : Nat) (S : Nat → Nat → Nat) (nk nt rm : Nat → Int32) (h : xH) (hH : ML n L S nk nt rm h) (x : Int32) : Ev l zX5_line [.inr (40, 0), vI x] h (fun r h' => r = some (vI (b2i (okLine x))) ∧ ML n (sLen L x) (sLin S x) nk nt rm h') := by
  obtain ⟨th, ln, lg, sa, wh, up, lo, rfl, hB⟩ := hH
  have no : okLine x = false → ML n (sLen L x) (sLin S x) nk nt rm (mlH 0 nk nt rm ln lg sa wh up lo) := fun q => by
    unfold sLen sLin
    rw [q]
    exact ⟨0, ln, lg, sa, wh, up, lo, rfl, hB⟩
  obtain ⟨b1, b2, b3, b4, b5, b6, b7⟩ := id hB
  refine ev_all okX5_line (by decide +kernel) (Nat.le_of_ble_eq_true rfl) ?_
  intro K hK
  have loop : okLine x = true → ∀ (e k : Nat), k + e = 150 → ∀ (sa : Nat → Int32), (∀ j, j < k → sa j = 0) → ∀ X : Int32, X = nI k → K 25 [(0, .inr (40, 0)), (1, vI x), (2, vI X)] [] (mlH 0 nk nt rm x lg sa wh up lo) := by
    intro hok e
    induction e with
    | zero =>
      intro k hk sa hsa X hX
      have hk : k = 150 := hk
      subst hk; subst hX
      refine hK [] 60 25 _ _ _ ?_
      refine And.intro (fun _ => ?_) (fun z => absurd (Int32.le_refl _) z)
      have hq := of_decide_eq_true hok
      obtain ⟨m, hm, rfl, hmt⟩ := nI_arg (x := x) (by omega)
      have e1 : sLen L (nI m) = m := by unfold sLen; rw [hok, if_pos rfl, hmt]; rfl
      have e2 : sLin S (nI m) = W0 := by unfold sLin; rw [hok]; rfl
      refine And.intro (Or.inr rfl) (And.intro ⟨by rw [hok]; rfl, ?_⟩ rfl)
      rw [e1, e2]
      refine ⟨0, nI m, lg, sa, wh, up, lo, rfl, b1, b2, by omega, by omega, b5, rfl, fun p j hp hj => ⟨by show 0 ≤ 30; omega, ?_⟩⟩
      rw [hsa _ (by omega)]
      rfl
    | succ e ih =>
      intro k hk sa hsa X hX
      subst hX
      have ck : (nI k).toNatClampNeg = k := nI_clamp (by omega)
      refine hK [(25, [0, 1, 2])] 60 25 _ _ _ ?_
      refine And.intro (fun z => absurd (show nI 150 ≤ nI k from z) (nI_ge (by omega) (by omega))) (fun _ => ?_)
      refine And.intro (vp_in_nI (by omega) (by omega)) ?_
      refine ih (k + 1) (by omega) _ (fun j hj => ?_) _ (nI_1 k)
      rw [ck]
      by_cases ej : j = k
      · rw [ej, pk_us]
      · rw [pk_un ej]
        exact hsa j (by omega)
  refine hK [(25, [0, 1, 2])] 60 0 _ _ _ ?_
  refine And.intro (fun q => ?_) (fun q => And.intro (fun q2 => ?_) (fun q2 => ?_))
  · have q : x.toInt < 1 := lt_T.mp q
    have e : okLine x = false := decide_eq_false (by omega)
    exact And.intro (Or.inl rfl) (And.intro ⟨by rw [e]; rfl, no e⟩ rfl)
  · have q : ¬ x.toInt < 1 := fun z => q (lt_T.mpr z)
    have q2 : x.toInt ≤ 30 := le_T.mp q2
    have e : okLine x = true := decide_eq_true (by omega)
    exact loop e 150 0 (by omega) sa (fun j hj => absurd hj (Nat.not_lt_zero j)) 0 rfl
  · have q2 : ¬ x.toInt ≤ 30 := fun z => q2 (le_T.mpr z)
    have e : okLine x = false := decide_eq_false (by omega)
    exact And.intro (Or.inl rfl) (And.intro ⟨by rw [e]; rfl, no e⟩ rfl)
theorem m_stretch (l : Launch) (n L : Nat) (S : Nat → Nat → Nat) (nk nt rm : Nat → Int32) (h : xH) (hH : ML n L S nk nt rm h) (p j w : Int32) : Ev l zX5_stretch [.inr (40, 0), vI p, vI j, vI w] h (fun v h' => v = some (vI (b2i (okStr n L p j w))) ∧ ML n L (sStr n L S p j w) nk nt rm h') := by
  obtain ⟨th, ln, lg, sa, wh, up, lo, rfl, hB⟩ := hH
  have no : okStr n L p j w = false → ML n L (sStr n L S p j w) nk nt rm (mlH 0 nk nt rm ln lg sa wh up lo) := fun q => by
    unfold sStr
    rw [q]
    exact ⟨0, ln, lg, sa, wh, up, lo, rfl, hB⟩
  obtain ⟨b1, b2, b3, b4, b5, rfl, b7⟩ := id hB
  have hT : (nI L).toInt = (L : Int) := nI_toInt (by omega)
  have noj : is1 L j = false → okStr n L p j w = false := fun q => by unfold okStr; rw [q, Bool.and_false]; rfl
  refine ev_run okX5_stretch (by decide +kernel) (Nat.le_of_ble_eq_true rfl) 60 ?_
  refine ⟨[40], _, m_isOne l n b2 0 nk nt rm (nI L) lg b5 p, fun v hc' hP _ => ?_⟩
  obtain ⟨rfl, rfl⟩ := hP
  refine And.intro (fun q => ?_) (fun q => And.intro (fun j1 => ?_) (fun j1 => And.intro (fun j2 => ?_) (fun j2 => And.intro (fun w1 => ?_) (fun w1 => And.intro (fun w2 => ?_) (fun w2 => ?_)))))
  · have e : okStr n L p j w = false := by unfold okStr; rw [b2i0 q]; rfl
    exact And.intro (Or.inl rfl) (And.intro ⟨by rw [e]; rfl, no e⟩ rfl)
  · have j1 : j.toInt < 0 := lt_T.mp j1
    have e := noj (decide_eq_false (by omega))
    exact And.intro (Or.inl rfl) (And.intro ⟨by rw [e]; rfl, no e⟩ rfl)
  · have j2 : (nI L).toInt ≤ j.toInt := le_T.mp j2
    rw [hT] at j2
    have e := noj (decide_eq_false (by omega))
    exact And.intro (Or.inl rfl) (And.intro ⟨by rw [e]; rfl, no e⟩ rfl)
  · have w1 : w.toInt < 0 := lt_T.mp w1
    have e : okStr n L p j w = false := by unfold okStr; rw [decide_eq_false (by omega), Bool.and_false]
    exact And.intro (Or.inl rfl) (And.intro ⟨by rw [e]; rfl, no e⟩ rfl)
  · have j1 : ¬ j.toInt < 0 := fun z => j1 (lt_T.mpr z)
    have j2 : ¬ (nI L).toInt ≤ j.toInt := fun z => j2 (le_T.mpr z)
    rw [hT] at j2
    have w1 : ¬ w.toInt < 0 := fun z => w1 (lt_T.mpr z)
    have w2 : w.toInt ≤ 30 := le_T.mp w2
    have q := b2i1 q
    have qj : is1 L j = true := decide_eq_true (by omega)
    have e : okStr n L p j w = true := by unfold okStr; rw [q, qj, decide_eq_true (by omega)]; rfl
    obtain ⟨a, ha, rfl, hat⟩ := is1_of q
    obtain ⟨b, hb, rfl, hbt⟩ := is1_of qj
    obtain ⟨c, hc, rfl, hct⟩ := nI_arg (x := w) (by omega)
    obtain ⟨i1, i2⟩ := idx30_v (a := a) (b := b) (by omega) (by omega)
    refine And.intro i1 (And.intro (Or.inr rfl) (And.intro ⟨by rw [e]; rfl, ?_⟩ rfl))
    have e1 : sStr n L S (nI a) (nI b) (nI c) = upM S a b c := by unfold sStr; rw [e, if_pos rfl, hat, hbt, hct]; rfl
    rw [e1]
    refine ⟨0, nI L, lg, upd sa (30 * nI a + nI b).toNatClampNeg (nI c), wh, up, lo, rfl, b1, b2, b3, b4, b5, rfl, fun p j hp hj => ?_⟩
    rw [i2]
    unfold upM
    by_cases epj : p = a ∧ j = b
    · rw [if_pos epj, epj.1, epj.2, pk_us]
      exact ⟨by omega, rfl⟩
    · rw [if_neg epj, pk_un (by omega)]
      exact b7 p j hp hj
  · have w2 : ¬ w.toInt ≤ 30 := fun z => w2 (le_T.mpr z)
    have e : okStr n L p j w = false := by unfold okStr; rw [decide_eq_false (by omega), Bool.and_false]
    exact And.intro (Or.inl rfl) (And.intro ⟨by rw [e]; rfl, no e⟩ rfl)
theorem m_common (l : Launch) (a b : Nat) (ha : a < 2 ^ 62) (hb : b < 2 ^ 62) (x y : Int64) (hx : x = kL a) (hy : y = kL b) : Ev l zX5_common [vL x, vL y] [] (fun r h' => r = some (vL (kL (Nat.gcd a b))) ∧ h' = []) := by
  subst hx; subst hy
  refine ev_all okX5_common (by decide +kernel) (Nat.le_of_ble_eq_true rfl) ?_
  intro K hK
  have loop : ∀ (d c : Nat), c < 2 ^ 62 → d < 2 ^ 62 → Nat.gcd a b = Nat.gcd c d → K 17 [(4, vL (kL c)), (6, vL (kL d))] [] [] := by
    intro d
    induction d using Nat.strongRecOn with
    | _ d ih =>
      intro c hc hd hg
      by_cases d0 : d = 0
      · subst d0
        rw [Nat.gcd_zero_right] at hg
        refine hK [] 60 17 _ _ _ ?_
        refine And.intro (fun _ => ?_) (fun z => absurd (show kL 0 ≤ kL 0 from Int64.le_refl _) z)
        exact And.intro ⟨by rw [hg], rfl⟩ rfl
      · have hr := Nat.mod_lt c (show 0 < d by omega)
        rw [gcd_step c d] at hg
        refine hK [(17, [4, 6])] 60 17 _ _ _ ?_
        refine And.intro (fun z => ?_) (fun _ => ?_)
        · exfalso
          have z : kL d ≤ kL 0 := z
          rw [kL_le (by omega) (by omega)] at z
          omega
        · refine And.intro (kL_n0 (by omega) (by omega)) ?_
          have g := ih (c % d) hr d hd (by omega) hg
          rw [← kL_rem (by omega) (by omega)] at g
          exact g
  refine hK [(17, [4, 6])] 60 0 _ _ _ ?_
  refine And.intro (fun _ => ?_) (fun z => absurd (show kL 0 ≤ kL a from (kL_le (by omega) (by omega)).mpr (by omega)) z)
  exact loop b a ha hb rfl
theorem m_fraction (l : Launch) (a b : Nat) (ha : a < 2 ^ 62) (hb1 : 1 ≤ b) (hb : b < 2 ^ 62) (th : Int32) (nk nt rm : Nat → Int32) (ln : Int32) (lg : Nat → Int64) (x y : Int64) (hx : x = kL a) (hy : y = kL b) : Ev l zX5_fraction [.inr (40, 0), vL x, vL y] (mo1 th nk nt rm ln lg) (fun r h' => r = none ∧ ∃ lg' : Nat → Int64, lg' 0 = kL (rdN a b) ∧ lg' 1 = kL (rdD a b) ∧ h' = mo1 th nk nt rm ln lg') := by
  subst hx; subst hy
  have hg : 0 < Nat.gcd a b := Nat.gcd_pos_of_pos_right a (by omega)
  have hgb : Nat.gcd a b ≤ b := Nat.le_of_dvd (by omega) (Nat.gcd_dvd_right a b)
  have hne : ¬ kL (Nat.gcd a b) = 0 := kL_n0 hg (by omega)
  refine ev_run okX5_fraction (by decide +kernel) (Nat.le_of_ble_eq_true rfl) 60 ?_
  refine ⟨[], _, m_common l a b ha hb _ _ rfl rfl, fun r hc' hP _ => ?_⟩
  obtain ⟨rfl, rfl⟩ := hP
  refine And.intro hne (And.intro hne (And.intro ⟨rfl, vp_updL (vp_updL lg 0 (kL a / kL (Nat.gcd a b))) 1 (kL b / kL (Nat.gcd a b)), ?_, ?_, rfl⟩ rfl))
  · rw [un_L (by omega), us_L, kL_div (by omega) (by omega)]
    rfl
  · rw [us_L, kL_div (by omega) (by omega)]
    rfl
abbrev mwH (th : Int32) (nk nt rm : Nat → Int32) (ln : Int32) (lg : Nat → Int64) (sa : Nat → Int32) : xH := [mdO th nk nt rm ln lg, iA 53 150 sa]
theorem MLS_le {n L : Nat} {S : Nat → Nat → Nat} {sa : Nat → Int32} (h : MLS n L S sa) (hL : L ≤ 30) {p k : Nat} (hp : p < n) (hk : k ≤ L) : aS S p k ≤ 900 := by
  have h1 := sm_le (f := S p) (b := 30) (n := k) (fun i hi => (h p i hp (by omega)).1)
  unfold aS
  omega
theorem m_wholeOf (l : Launch) (n L : Nat) (S : Nat → Nat → Nat) (hn : n ≤ 5) (hL : L ≤ 30) (th : Int32) (nk nt rm : Nat → Int32) (lg : Nat → Int64) (sa : Nat → Int32) (hs : MLS n L S sa) (p : Nat) (hp : p < n) (x : Int32) (hx : x = nI p) : Ev l zX5_wholeOf [.inr (40, 0), vI x] (mwH th nk nt rm (nI L) lg sa) (fun r h' => r = some (vI (nI (aS S p L))) ∧ h' = mwH th nk nt rm (nI L) lg sa) := by
  subst hx
  refine ev_all okX5_wholeOf (by decide +kernel) (Nat.le_of_ble_eq_true rfl) ?_
  intro K hK
  have loop : ∀ (e k : Nat), k + e = L → ∀ A X : Int32, A = nI (aS S p k) → X = nI k → K 4 [(0, .inr (40, 0)), (1, vI (nI p)), (2, vI A), (3, vI X)] [] (mwH th nk nt rm (nI L) lg sa) := by
    intro e
    induction e with
    | zero =>
      intro k hk A X hA hX
      have hk : k = L := hk
      subst hk; subst hA; subst hX
      refine hK [] 60 4 _ _ _ ?_
      refine And.intro (fun _ => ?_) (fun z => absurd (Int32.le_refl _) z)
      exact And.intro ⟨rfl, rfl⟩ rfl
    | succ e ih =>
      intro k hk A X hA hX
      subst hA; subst hX
      obtain ⟨i1, i2⟩ := idx30_v (a := p) (b := k) (by omega) (by omega)
      refine hK [(4, [0, 1, 2, 3])] 60 4 _ _ _ ?_
      refine And.intro (fun z => absurd z (nI_ge (by omega) (by omega))) (fun _ => ?_)
      refine And.intro i1 ?_
      refine ih (k + 1) (by omega) _ _ ?_ (nI_1 k)
      show nI (aS S p k) + sa (30 * nI p + nI k).toNatClampNeg = _
      rw [i2, (hs p k hp (by omega)).2, nI_add]
      rfl
  refine hK [(4, [0, 1, 2, 3])] 60 0 _ _ _ ?_
  exact loop L 0 (by omega) 0 0 rfl rfl
theorem m_worthTo (l : Launch) (n L : Nat) (S : Nat → Nat → Nat) (hn : n ≤ 5) (hL : L ≤ 30) (th : Int32) (nk nt rm : Nat → Int32) (ln : Int32) (lg : Nat → Int64) (sa : Nat → Int32) (hs : MLS n L S sa) (p : Nat) (hp : p < n) (a b : Nat) (hb1 : 1 ≤ b) (hb : b ≤ 4050000) (ha : a ≤ L * b) (x : Int32) (y z : Int64) (hx : x = nI p) (hy : y = kL a) (hz : z = kL b) : Ev l zX5_worthTo [.inr (40, 0), vI x, vL y, vL z] (mwH th nk nt rm ln lg sa) (fun r h' => r = none ∧ ∃ lg' : Nat → Int64, lg' 0 = kL (rdN (pa L S p a b) b) ∧ lg' 1 = kL (rdD (pa L S p a b) b) ∧ h' = mwH th nk nt rm ln lg' sa) := by
  subst hx; subst hy; subst hz
  have hab : a ≤ 30 * b := Nat.le_trans ha (Nat.mul_le_mul_right b hL)
  have hkL : a / b ≤ L := by
    have := Nat.div_le_div_right (c := b) ha
    rw [Nat.mul_div_cancel _ (by omega)] at this
    exact this
  have hk1 : a / b * b ≤ a := Nat.div_mul_le_self a b
  have hk2 : a < (a / b + 1) * b := by
    have := Nat.lt_mul_div_succ a (show 0 < b by omega)
    rw [Nat.mul_comm] at this
    exact this
  have hdm := Nat.div_add_mod a b
  have hmr := Nat.mod_lt a (show 0 < b by omega)
  have hne : ¬ kL b = 0 := kL_n0 (by omega) (by omega)
  have hpb : pa L S p a b ≤ 900 * b := Nat.le_trans (pa_le L S p a b) (Nat.mul_le_mul_right b (MLS_le hs hL hp (Nat.le_refl L)))
  refine ev_all okX5_worthTo (by decide +kernel) (Nat.le_of_ble_eq_true rfl) ?_
  intro K hK
  -- the whole sum is there
  have fin : ∀ (q : Int64), kL (aS S p (a / b)) * kL b + q = kL (pa L S p a b) → K 79 [(0, .inr (40, 0)), (1, vI (nI p)), (4, vL (kL b)), (6, vL (kL (aS S p (a / b))))] [vL q] (mwH th nk nt rm ln lg sa) := by
    intro q hq
    refine hK [] 60 79 _ _ _ ?_
    refine ⟨[40], _, m_fraction l (pa L S p a b) b (by omega) hb1 (by omega) th nk nt rm ln lg _ _ hq rfl, fun r hc' hP _ => ?_⟩
    obtain ⟨rfl, lg', g1, g2, rfl⟩ := hP
    exact And.intro ⟨rfl, lg', g1, g2, rfl⟩ rfl
  have at45 : K 45 [(0, .inr (40, 0)), (1, vI (nI p)), (2, vL (kL a)), (4, vL (kL b)), (6, vL (kL (aS S p (a / b)))), (8, vL (kL (a / b)))] [] (mwH th nk nt rm ln lg sa) := by
    have hrem := kL_rem (a := a) (b := b) (by omega) (by omega)
    refine hK [(79, [0, 1, 4, 6])] 60 45 _ _ _ ?_
    refine And.intro hne ?_
    have hz0 : kL a - kL a / kL b * kL b = 0 ↔ a % b = 0 := by
      rw [hrem]
      exact kL_eq (b := 0) (by omega) (by omega)
    refine And.intro (fun z => ?_) (fun z => ?_)
    · have z : ¬ a % b = 0 := fun w => z (hz0.mpr w)
      have hlt : a / b < L := by
        rcases Nat.lt_or_ge (a / b) L with h | h
        · exact h
        · exfalso
          have e1 : a / b = L := by omega
          rw [e1, Nat.mul_comm] at hdm
          omega
      have hti : (kL (a / b)).toInt32 = nI (a / b) := kL_toI (by omega)
      obtain ⟨i1, i2⟩ := idx30_v (a := p) (b := a / b) (by omega) (by omega)
      have s1 := (hs p (a / b) hp hlt).1
      refine And.intro (by show vp_in (30 * nI p + (kL (a / b)).toInt32) 150; rw [hti]; exact i1) ?_
      refine fin _ ?_
      show kL (aS S p (a / b)) * kL b + (kL a - kL a / kL b * kL b) * (sa (30 * nI p + (kL (a / b)).toInt32).toNatClampNeg).toInt64 = _
      rw [hti, i2, (hs p (a / b) hp hlt).2, kL_nI (by omega), hrem, kL_mul, kL_mul, kL_add, pa_at hlt hk1 (Nat.le_of_lt hk2)]
      congr 2
      rw [Nat.mul_comm]
      congr 1
      rw [Nat.mul_comm] at hdm
      omega
    · have z := hz0.mp z
      refine fin 0 ?_
      show kL (aS S p (a / b)) * kL b + kL 0 = _
      rw [kL_mul, kL_add, Nat.add_zero]
      congr 1
      rw [z, Nat.add_zero, Nat.mul_comm] at hdm
      rcases Nat.lt_or_ge (a / b) L with h | h
      · rw [pa_at h hk1 (Nat.le_of_lt hk2), show a - a / b * b = 0 by omega, Nat.mul_zero, Nat.add_zero]
      · have e1 : a / b = L := by omega
        rw [e1] at hdm ⊢
        rw [pa_end (by omega)]
  have loop : ∀ (e k : Nat), k + e = a / b → ∀ (A : Int64) (X : Int32), A = kL (aS S p k) → X = nI k → K 12 [(0, .inr (40, 0)), (1, vI (nI p)), (2, vL (kL a)), (4, vL (kL b)), (6, vL A), (8, vL (kL (a / b))), (10, vI X)] [] (mwH th nk nt rm ln lg sa) := by
    intro e
    induction e with
    | zero =>
      intro k hk A X hA hX
      have hk : k = a / b := hk
      subst hA; subst hX
      refine hK [(45, [0, 1, 2, 4, 6, 8])] 60 12 _ _ _ ?_
      refine And.intro (fun _ => ?_) (fun z => absurd (by show kL (a / b) ≤ (nI k).toInt64; rw [kL_nI (by omega), hk]; exact Int64.le_refl _) z)
      rw [hk]
      exact at45
    | succ e ih =>
      intro k hk A X hA hX
      subst hA; subst hX
      obtain ⟨i1, i2⟩ := idx30_v (a := p) (b := k) (by omega) (by omega)
      have s1 := (hs p k hp (by omega)).1
      refine hK [(12, [0, 1, 2, 4, 6, 8, 10])] 60 12 _ _ _ ?_
      refine And.intro (fun z => ?_) (fun _ => ?_)
      · exfalso
        have z : kL (a / b) ≤ (nI k).toInt64 := z
        rw [kL_nI (by omega), kL_le (by omega) (by omega)] at z
        omega
      · refine And.intro i1 ?_
        refine ih (k + 1) (by omega) _ _ ?_ (nI_1 k)
        show kL (aS S p k) + (sa (30 * nI p + nI k).toNatClampNeg).toInt64 = _
        rw [i2, (hs p k hp (by omega)).2, kL_nI (by omega), kL_add]
        rfl
  refine hK [(12, [0, 1, 2, 4, 6, 8, 10])] 60 0 _ _ _ ?_
  refine And.intro hne ?_
  have g := loop (a / b) 0 (by omega) 0 0 rfl rfl
  rw [← kL_div (by omega) (by omega)] at g
  exact g
