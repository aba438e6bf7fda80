/-! ===== the reference: mark, all, doorsAll ===== -/
theorem mayB_nI {N a b c : Nat} (hab : a + b ≤ N) (hN : N ≤ 20) (hc : c ≤ 2) : mayB N (nI a) (nI b) (nI c) = decide ((c = 0 ∧ 0 < a) ∨ (c = 1 ∧ 0 < b) ∨ (c = 2 ∧ a + b < N)) := by
  unfold mayB
  apply decide_eq_decide.mpr
  rw [nI_toInt (show a < 2 ^ 31 by omega), nI_toInt (show b < 2 ^ 31 by omega), show (0 : Int32) = nI 0 from rfl, show (1 : Int32) = nI 1 from rfl, show (2 : Int32) = nI 2 from rfl, nI_eq (by omega) (by omega), nI_eq (by omega) (by omega), nI_eq (by omega) (by omega)]
  omega
theorem mayB_lo {N : Nat} {x y k : Int32} (h : k.toInt < 0 ∨ 2 < k.toInt) : mayB N x y k = false := by
  apply decide_eq_false
  rintro (w | w | w) <;> rw [w.1] at h <;> exact absurd h (by decide)
theorem m_mark (l : Launch) (N : Nat) (mk : Nat → Nat → Nat) (w : Option wEnd) (nk rm : Nat → Int32) (ln : Int32) (lg : Nat → Int64) (h : xH) (hH : MT N mk w nk rm ln lg h) (x y k : Int32) : Ev l zX5_mark [.inr (40, 0), vI x, vI y, vI k] h (fun r h' => r = some (vI (b2i (okMark N x y k))) ∧ MT N (sMark N mk x y k) (wMark N w x y k) nk rm ln lg h') := by
  obtain ⟨th, nt, ma, rfl, hB, hW⟩ := hH
  obtain ⟨hN1, h20, hok, hsz, hma⟩ := id hB
  have hbad : okMark N x y k = false → MT N (sMark N mk x y k) (wMark N w x y k) nk rm ln lg (mtH 0 nk nt rm ln lg ma) := fun q => by
    have e1 : sMark N mk x y k = mk := by unfold sMark; rw [q]; rfl
    have e2 : wMark N w x y k = w := by unfold wMark; rw [q]; rfl
    rw [e1, e2]
    exact ⟨0, nt, ma, rfl, hB, hW⟩
  refine ev_all okX5_mark (by decide +kernel) (Nat.le_of_ble_eq_true rfl) ?_
  intro K hK
  refine hK [(48, [0, 1, 2, 3])] 60 0 _ _ _ ?_
  refine ⟨[40, 46], _, m_isPoint l N hN1 h20 0 nk nt rm ln lg ma hsz x y, fun r hc' hP _ => ?_⟩
  obtain ⟨rfl, rfl⟩ := hP
  refine And.intro (fun q => ?_) (fun q => ?_)
  · have e : okMark N x y k = false := by unfold okMark; rw [b2i0 q]; rfl
    exact And.intro (Or.inl rfl) (And.intro ⟨by rw [e]; rfl, hbad e⟩ rfl)
  · have q := b2i1 q
    obtain ⟨a, b, hab, rfl, rfl⟩ := isPt_of q
    refine And.intro (fun k1 => ?_) (fun k1 => And.intro (fun k2 => ?_) (fun k2 => ?_))
    · have k1 : k.toInt < 0 := lt_T.mp k1
      have e : okMark N (nI a) (nI b) k = false := by unfold okMark; rw [mayB_lo (Or.inl k1), Bool.and_false]
      exact And.intro (Or.inl rfl) (And.intro ⟨by rw [e]; rfl, hbad e⟩ rfl)
    · have k2 : 2 < k.toInt := lt_T.mp k2
      have e : okMark N (nI a) (nI b) k = false := by unfold okMark; rw [mayB_lo (Or.inr k2), Bool.and_false]
      exact And.intro (Or.inl rfl) (And.intro ⟨by rw [e]; rfl, hbad e⟩ rfl)
    · have k1 : ¬ k.toInt < 0 := fun z => k1 (lt_T.mpr z)
      have k2 : ¬ 2 < k.toInt := fun z => k2 (lt_T.mpr z)
      obtain ⟨c, hc, rfl, hct⟩ := nI_arg (x := k) (by omega)
      have hc2 : c ≤ 2 := by omega
      have at48 : ∀ v : Int32, (v = 0 ↔ mayB N (nI a) (nI b) (nI c) = false) → K 48 [(0, .inr (40, 0)), (1, vI (nI a)), (2, vI (nI b)), (3, vI (nI c))] [vI v] (mtH 0 nk nt rm ln lg ma) := by
        intro v hv
        refine hK [] 60 48 _ _ _ ?_
        refine And.intro (fun z => ?_) (fun z => ?_)
        · have z : mayB N (nI a) (nI b) (nI c) = true := by
            cases hm : mayB N (nI a) (nI b) (nI c) with
            | true => rfl
            | false => exact absurd (hv.mpr hm) z
          have e : okMark N (nI a) (nI b) (nI c) = true := by unfold okMark; rw [q, z]; rfl
          obtain ⟨i1, i2, i3⟩ := idx21b hab h20
          refine And.intro (by show vp_in (21 * nI b + nI a) 441; rw [i1]; exact i3) (And.intro (Or.inl rfl) (And.intro (Or.inr rfl) (And.intro ⟨by rw [e]; rfl, ?_⟩ rfl)))
          have e1 : sMark N mk (nI a) (nI b) (nI c) = upM mk a b c := by
            unfold sMark
            rw [e, if_pos rfl, nI_toInt (by omega), nI_toInt (by omega), hct]
            rfl
          have e2 : wMark N w (nI a) (nI b) (nI c) = none := by unfold wMark; rw [e]; rfl
          rw [e1, e2]
          refine ⟨0, upd nt 4 0, upd ma (21 * nI b + nI a).toNatClampNeg (nI c), rfl, ⟨hN1, h20, sMark_ok hok hab h20 hc2 z, by rw [pk_un (by omega)]; exact hsz, fun x y hxy => ?_⟩, pk_us⟩
          rw [i1, i2]
          unfold upM
          by_cases exy : x = a ∧ y = b
          · rw [if_pos exy, exy.1, exy.2, pk_us]
          · rw [if_neg exy, pk_un (fun w => exy (idx21b_inj (by omega) (by omega) w)), hma x y hxy]
        · have z := hv.mp z
          have e : okMark N (nI a) (nI b) (nI c) = false := by unfold okMark; rw [z, Bool.and_false]
          exact And.intro (Or.inl rfl) (And.intro ⟨by rw [e]; rfl, hbad e⟩ rfl)
      have hm := mayB_nI (c := c) hab h20 hc2
      have e0 : ∀ {p : Nat}, p ≤ 20 → (nI p = 0 ↔ p = 0) := fun {p} hp => nI_eq (a := p) (b := 0) (by omega) (by omega)
      have ec : ∀ {p : Nat}, p ≤ 2 → (nI c = nI p ↔ c = p) := fun {p} hp => nI_eq (by omega) (by omega)
      refine And.intro (fun k0 => And.intro (fun k1 => at48 _ ?_) (fun k1 => at48 _ ?_)) (fun k0 => at48 _ ?_)
      · have k0 : ¬ c = 0 := fun z => k0 ((ec (p := 0) (by omega)).mpr z)
        have k1 : ¬ c = 1 := fun z => k1 ((ec (p := 1) (by omega)).mpr z)
        show nt 0 - nI a - nI b = 0 ↔ _
        rw [hsz, pk_sub (by omega), pk_sub (by omega), e0 (by omega), hm, decide_eq_false_iff_not]
        omega
      · have k1 : c = 1 := (ec (p := 1) (by omega)).mp k1
        show nI b = 0 ↔ _
        rw [e0 (by omega), hm, decide_eq_false_iff_not]
        omega
      · have k0 : c = 0 := (ec (p := 0) (by omega)).mp k0
        show nI a = 0 ↔ _
        rw [e0 (by omega), hm, decide_eq_false_iff_not]
        omega
/-! sums over a triangle, by rows and by columns -/
theorem sm_add (f g : Nat → Nat) : ∀ n : Nat, sm (fun i => f i + g i) n = sm f n + sm g n
  | 0 => rfl
  | n + 1 => by
    show sm (fun i => f i + g i) n + (f n + g n) = (sm f n + f n) + (sm g n + g n)
    rw [sm_add f g n]
    omega
theorem sm_front (f : Nat → Nat) : ∀ n : Nat, sm f (n + 1) = f 0 + sm (fun i => f (i + 1)) n
  | 0 => by show 0 + f 0 = f 0 + 0; omega
  | n + 1 => by
    show sm f (n + 1) + f (n + 1) = f 0 + (sm (fun i => f (i + 1)) n + f (n + 1))
    rw [sm_front f n]
    omega
theorem sm_rev (f : Nat → Nat) : ∀ n : Nat, sm f (n + 1) = sm (fun i => f (n - i)) (n + 1)
  | 0 => rfl
  | n + 1 => by
    rw [sm_front (fun i => f (n + 1 - i)) (n + 1)]
    show sm f (n + 1) + f (n + 1) = f (n + 1 - 0) + sm (fun i => f (n + 1 - (i + 1))) (n + 1)
    rw [sm_rev f n, sm_congr (f := fun i => f (n + 1 - (i + 1))) (g := fun i => f (n - i)) (fun i _ => by show f (n + 1 - (i + 1)) = f (n - i); rw [show n + 1 - (i + 1) = n - i by omega])]
    rw [show n + 1 - 0 = n + 1 from rfl]
    omega
theorem sm_diag (f : Nat → Nat → Nat) (N : Nat) : sm (fun x => sm (f x) (N + 1 - x)) (N + 1) = sm (fun x => sm (f x) (N - x)) N + sm (fun x => f x (N - x)) (N + 1) := by
  show sm (fun x => sm (f x) (N + 1 - x)) N + sm (f N) (N + 1 - N) = _ + (sm (fun x => f x (N - x)) N + f N (N - N))
  rw [sm_congr (f := fun x => sm (f x) (N + 1 - x)) (g := fun x => sm (f x) (N - x) + f x (N - x)) (fun x hx => by
    show sm (f x) (N + 1 - x) = sm (f x) (N - x) + f x (N - x)
    rw [show N + 1 - x = N - x + 1 by omega]
    rfl), sm_add, show N + 1 - N = 0 + 1 by omega, show N - N = 0 by omega]
  show _ + (0 + f N 0) = _
  omega
theorem sm_tri (f : Nat → Nat → Nat) : ∀ N : Nat, sm (fun x => sm (fun y => f x y) (N - x)) N = sm (fun y => sm (fun x => f x y) (N - y)) N
  | 0 => rfl
  | N + 1 => by
    have h1 := sm_diag f N
    have h2 := sm_diag (fun y x => f x y) N
    have h3 := sm_tri f N
    have h4 := sm_rev (fun x => f x (N - x)) N
    have h5 : sm (fun i => f (N - i) (N - (N - i))) (N + 1) = sm (fun y => f (N - y) y) (N + 1) := sm_congr (fun i hi => by show f (N - i) (N - (N - i)) = f (N - i) i; rw [show N - (N - i) = i by omega])
    have h4 : sm (fun x => f x (N - x)) (N + 1) = sm (fun i => f (N - i) (N - (N - i))) (N + 1) := h4
    have h1 : sm (fun x => sm (fun y => f x y) (N + 1 - x)) (N + 1) = sm (fun x => sm (fun y => f x y) (N - x)) N + sm (fun x => f x (N - x)) (N + 1) := h1
    rw [h1, h2, h3, h4, h5]
theorem MT_keep {N : Nat} {mk : Nat → Nat → Nat} {w : Option wEnd} {nk nt rm : Nat → Int32} {ln : Int32} {lg : Nat → Int64} {ma : Nat → Int32} (hB : MTB N mk nt ma) (hW : MTW w nt) {nt' : Nat → Int32} (hn : ∀ j, j ≠ 1 → j ≠ 2 → j ≠ 3 → nt' j = nt j) : MTB N mk nt' ma ∧ MT N mk w nk rm ln lg (mtH 0 nk nt' rm ln lg ma) := by
  obtain ⟨hN1, h20, hok, hsz, hma⟩ := hB
  have hB' : MTB N mk nt' ma := ⟨hN1, h20, hok, (hn 0 (by omega) (by omega) (by omega)).trans hsz, hma⟩
  refine ⟨hB', 0, nt', ma, rfl, hB', ?_⟩
  cases w with
  | none => exact (hn 4 (by omega) (by omega) (by omega)).trans hW
  | some e =>
    obtain ⟨x, y, k, o⟩ := e
    obtain ⟨w1, w2, w3, w4, w5, w6⟩ := hW
    exact ⟨(hn 4 (by omega) (by omega) (by omega)).trans w1, (hn 5 (by omega) (by omega) (by omega)).trans w2, (hn 6 (by omega) (by omega) (by omega)).trans w3, (hn 7 (by omega) (by omega) (by omega)).trans w4, (hn 8 (by omega) (by omega) (by omega)).trans w5, (hn 9 (by omega) (by omega) (by omega)).trans w6⟩
theorem m_all (l : Launch) (N : Nat) (mk : Nat → Nat → Nat) (w : Option wEnd) (nk rm : Nat → Int32) (ln : Int32) (lg : Nat → Int64) (h : xH) (hH : MT N mk w nk rm ln lg h) : Ev l zX5_all [.inr (40, 0)] h (fun r h' => r = some (vI (nI (qAll N mk))) ∧ MT N mk w nk rm ln lg h') := by
  obtain ⟨th, nt, ma, rfl, hB, hW⟩ := hH
  obtain ⟨hN1, h20, hok, hsz, hma⟩ := id hB
  have hq : qAll N mk = sm (fun y => sm (fun x => f2 N mk x y) (N - y)) N := sm_tri (fun x y => f2 N mk x y) N
  rw [hq]
  refine ev_all okX5_all (by decide +kernel) (Nat.le_of_ble_eq_true rfl) ?_
  intro K hK
  have outer : ∀ (e y : Nat), y + e = N → ∀ (nt' : Nat → Int32), (∀ j, j ≠ 1 → j ≠ 2 → j ≠ 3 → nt' j = nt j) → ∀ S Y : Int32, S = nI (sm (fun y => sm (fun x => f2 N mk x y) (N - y)) y) → Y = nI y → K 9 [(0, .inr (40, 0)), (1, vI S), (2, vI Y)] [] (mtH 0 nk nt' rm ln lg ma) := by
    intro e
    induction e with
    | zero =>
      intro y hy nt' hn S Y hS hY
      have hy : y = N := hy
      subst hy; subst hY
      obtain ⟨hB', hM'⟩ := MT_keep (nk := nk) (rm := rm) (ln := ln) (lg := lg) hB hW hn
      refine hK [] 60 9 _ _ _ ?_
      refine And.intro (fun _ => ?_) (fun q => absurd (by show nt' 0 ≤ nI y; rw [hB'.2.2.2.1]; exact Int32.le_refl _) q)
      exact And.intro ⟨by rw [hS], hM'⟩ rfl
    | succ e ih =>
      intro y hy nt' hn S Y hS hY
      subst hY
      have inner : ∀ (f x : Nat), x + f = N - y → ∀ (nt' : Nat → Int32), (∀ j, j ≠ 1 → j ≠ 2 → j ≠ 3 → nt' j = nt j) → ∀ S' X : Int32, S' = nI (sm (fun y => sm (fun x => f2 N mk x y) (N - y)) y + sm (fun x => f2 N mk x y) x) → X = nI x → K 19 [(0, .inr (40, 0)), (1, vI S'), (2, vI (nI y)), (3, vI X)] [] (mtH 0 nk nt' rm ln lg ma) := by
        intro f
        induction f with
        | zero =>
          intro x hx nt' hn S' X hS' hX
          have hx : x = N - y := hx
          subst hX
          obtain ⟨hB', -⟩ := MT_keep (nk := nk) (rm := rm) (ln := ln) (lg := lg) hB hW hn
          refine hK [(9, [0, 1, 2])] 60 19 _ _ _ ?_
          refine And.intro (fun _ => ?_) (fun q => absurd (by show nt' 0 ≤ nI x + nI y; rw [hB'.2.2.2.1, nI_add]; exact nI_le (by omega) (by omega)) q)
          refine ih (y + 1) (by omega) nt' hn _ _ ?_ (nI_1 y)
          rw [hS', hx]
          rfl
        | succ f ihf =>
          intro x hx nt' hn S' X hS' hX
          subst hX
          have hT : isT N x y 0 := Or.inl ⟨rfl, by omega⟩
          obtain ⟨hB', -⟩ := MT_keep (nk := nk) (rm := rm) (ln := ln) (lg := lg) hB hW hn
          have at47 : ∀ (nt' : Nat → Int32), (∀ j, j ≠ 1 → j ≠ 2 → j ≠ 3 → nt' j = nt j) → ∀ T : Int32, T = S' + nI (c1 (tFull mk x y 0)) → K 47 [(0, .inr (40, 0)), (1, vI T), (2, vI (nI y)), (3, vI (nI x))] [] (mtH 0 nk nt' rm ln lg ma) := by
            intro nt' hn T hTT
            obtain ⟨hB', -⟩ := MT_keep (nk := nk) (rm := rm) (ln := ln) (lg := lg) hB hW hn
            have hfin : ∀ (nt' : Nat → Int32), (∀ j, j ≠ 1 → j ≠ 2 → j ≠ 3 → nt' j = nt j) → ∀ v : Int32, v = nI (if x + y + 1 < N then c1 (tFull mk x y 1) else 0) → K 19 [(0, .inr (40, 0)), (1, vI (T + v)), (2, vI (nI y)), (3, vI (nI x + 1))] [] (mtH 0 nk nt' rm ln lg ma) := by
              intro nt' hn v hv
              refine ihf (x + 1) (by omega) nt' hn _ _ ?_ (nI_1 x)
              rw [hTT, hS', hv, nI_add, nI_add]
              congr 1
              show _ = _ + (sm (fun x => f2 N mk x y) x + f2 N mk x y)
              unfold f2
              omega
            have hsub : nt' 0 - 1 = nI (N - 1) := by rw [hB'.2.2.2.1]; exact pk_sub (b := 1) (by omega)
            refine hK [(19, [0, 1, 2, 3])] 60 47 _ _ _ ?_
            refine And.intro (fun q => ?_) (fun q => ?_)
            · have q : nt' 0 - 1 ≤ nI x + nI y := q
              rw [hsub, nI_add, nI_leI (by omega) (by omega)] at q
              refine hfin nt' hn 0 ?_
              rw [if_neg (by omega)]
              rfl
            · have q : ¬ nt' 0 - 1 ≤ nI x + nI y := q
              rw [hsub, nI_add, nI_leI (by omega) (by omega)] at q
              refine ⟨[40, 46], _, m_isAll l N mk 0 nk nt' rm ln lg ma hB' x y 1 (Or.inr ⟨rfl, by omega⟩) _ _ _ rfl rfl rfl, fun r hc' hP _ => ?_⟩
              obtain ⟨rfl, nt2, hn2, rfl⟩ := hP
              have hn3 : ∀ j, j ≠ 1 → j ≠ 2 → j ≠ 3 → nt2 j = nt j := fun j a b c => (hn2 j a b c).trans (hn j a b c)
              refine And.intro (fun z => ?_) (fun z => ?_)
              · refine hfin nt2 hn3 0 ?_
                rw [if_pos (by omega), b2i0 z]
                rfl
              · refine hfin nt2 hn3 1 ?_
                rw [if_pos (by omega), b2i1 z]
                rfl
          refine hK [(47, [0, 1, 2, 3])] 60 19 _ _ _ ?_
          refine And.intro (fun q => absurd q (by show ¬ nt' 0 ≤ nI x + nI y; rw [hB'.2.2.2.1, nI_add]; exact nI_ge (by omega) (by omega))) (fun _ => ?_)
          refine ⟨[40, 46], _, m_isAll l N mk 0 nk nt' rm ln lg ma hB' x y 0 hT _ _ _ rfl rfl rfl, fun r hc' hP _ => ?_⟩
          obtain ⟨rfl, nt2, hn2, rfl⟩ := hP
          have hn3 : ∀ j, j ≠ 1 → j ≠ 2 → j ≠ 3 → nt2 j = nt j := fun j a b c => (hn2 j a b c).trans (hn j a b c)
          refine And.intro (fun z => at47 nt2 hn3 _ ?_) (fun z => at47 nt2 hn3 _ ?_)
          · show S' + 0 = _
            rw [b2i0 z]
            rfl
          · show S' + 1 = _
            rw [b2i1 z]
            rfl
      obtain ⟨hB', -⟩ := MT_keep (nk := nk) (rm := rm) (ln := ln) (lg := lg) hB hW hn
      refine hK [(19, [0, 1, 2, 3])] 60 9 _ _ _ ?_
      refine And.intro (fun q => absurd q (by show ¬ nt' 0 ≤ nI y; rw [hB'.2.2.2.1]; exact nI_ge (by omega) (by omega))) (fun _ => ?_)
      exact inner (N - y) 0 (by omega) nt' hn S 0 (by rw [hS]; rfl) rfl
  refine hK [(9, [0, 1, 2])] 60 0 _ _ _ ?_
  exact outer N 0 (by omega) nt (fun _ _ _ _ => rfl) 0 0 rfl rfl
theorem m_doorsAll (l : Launch) (N : Nat) (mk : Nat → Nat → Nat) (w : Option wEnd) (nk rm : Nat → Int32) (ln : Int32) (lg : Nat → Int64) (h : xH) (hH : MT N mk w nk rm ln lg h) : Ev l zX5_doorsAll [.inr (40, 0)] h (fun r h' => r = some (vI (nI (qDoorsAll N mk))) ∧ MT N mk w nk rm ln lg h') := by
  obtain ⟨th, nt, ma, rfl, hB, hW⟩ := hH
  obtain ⟨hN1, h20, hok, hsz, hma⟩ := id hB
  have hq : qDoorsAll N mk = sm (fun y => sm (fun x => d3 mk x y) (N - y)) N := sm_tri (fun x y => d3 mk x y) N
  rw [hq]
  refine ev_all okX5_doorsAll (by decide +kernel) (Nat.le_of_ble_eq_true rfl) ?_
  intro K hK
  have outer : ∀ (e y : Nat), y + e = N → ∀ (nt' : Nat → Int32), (∀ j, j ≠ 1 → j ≠ 2 → j ≠ 3 → nt' j = nt j) → ∀ S Y : Int32, S = nI (sm (fun y => sm (fun x => d3 mk x y) (N - y)) y) → Y = nI y → K 9 [(0, .inr (40, 0)), (1, vI S), (2, vI Y)] [] (mtH 0 nk nt' rm ln lg ma) := by
    intro e
    induction e with
    | zero =>
      intro y hy nt' hn S Y hS hY
      have hy : y = N := hy
      subst hy; subst hY
      obtain ⟨hB', hM'⟩ := MT_keep (nk := nk) (rm := rm) (ln := ln) (lg := lg) hB hW hn
      refine hK [] 60 9 _ _ _ ?_
      refine And.intro (fun _ => ?_) (fun q => absurd (by show nt' 0 ≤ nI y; rw [hB'.2.2.2.1]; exact Int32.le_refl _) q)
      exact And.intro ⟨by rw [hS], hM'⟩ rfl
    | succ e ih =>
      intro y hy nt' hn S Y hS hY
      subst hY
      have inner : ∀ (f x : Nat), x + f = N - y → ∀ (nt' : Nat → Int32), (∀ j, j ≠ 1 → j ≠ 2 → j ≠ 3 → nt' j = nt j) → ∀ S' X : Int32, S' = nI (sm (fun y => sm (fun x => d3 mk x y) (N - y)) y + sm (fun x => d3 mk x y) x) → X = nI x → K 19 [(0, .inr (40, 0)), (1, vI S'), (2, vI (nI y)), (3, vI X)] [] (mtH 0 nk nt' rm ln lg ma) := by
        intro f
        induction f with
        | zero =>
          intro x hx nt' hn S' X hS' hX
          have hx : x = N - y := hx
          subst hX
          obtain ⟨hB', -⟩ := MT_keep (nk := nk) (rm := rm) (ln := ln) (lg := lg) hB hW hn
          refine hK [(9, [0, 1, 2])] 60 19 _ _ _ ?_
          refine And.intro (fun _ => ?_) (fun q => absurd (by show nt' 0 ≤ nI x + nI y; rw [hB'.2.2.2.1, nI_add]; exact nI_le (by omega) (by omega)) q)
          refine ih (y + 1) (by omega) nt' hn _ _ ?_ (nI_1 y)
          rw [hS', hx]
          rfl
        | succ f ihf =>
          intro x hx nt' hn S' X hS' hX
          subst hX
          have hT : isT N x y 0 := Or.inl ⟨rfl, by omega⟩
          have l2 := (hok x y (by omega)).1
          have l0 := (hok (x + 1) y (by omega)).1
          have l1 := (hok x (y + 1) (by omega)).1
          obtain ⟨hB', -⟩ := MT_keep (nk := nk) (rm := rm) (ln := ln) (lg := lg) hB hW hn
          refine hK [(19, [0, 1, 2, 3])] 60 19 _ _ _ ?_
          refine And.intro (fun q => absurd q (by show ¬ nt' 0 ≤ nI x + nI y; rw [hB'.2.2.2.1, nI_add]; exact nI_ge (by omega) (by omega))) (fun _ => ?_)
          refine ⟨[40, 46], _, m_thirdIs l N mk 0 nk nt' rm ln lg ma h20 hma x y 0 hT _ _ _ rfl rfl rfl, fun r hc' hP _ => ?_⟩
          obtain ⟨rfl, nt2, hn2, n1, n2, n3, rfl⟩ := hP
          have hn3 : ∀ j, j ≠ 1 → j ≠ 2 → j ≠ 3 → nt2 j = nt j := fun j a b c => (hn2 j a b c).trans (hn j a b c)
          have fin : ∀ v1 v2 v3 : Int32, v1 = nI (c1 (dr (mk x y) (mk (x + 1) y))) → v2 = nI (c1 (dr (mk x y) (mk x (y + 1)))) → v3 = nI (c1 (dr (mk (x + 1) y) (mk x (y + 1)))) → K 19 [(0, .inr (40, 0)), (1, vI (S' + (v1 + v2 + v3))), (2, vI (nI y)), (3, vI (nI x + 1))] [] (mtH 0 nk nt2 rm ln lg ma) := by
            intro v1 v2 v3 e1 e2 e3
            refine ihf (x + 1) (by omega) nt2 hn3 _ _ ?_ (nI_1 x)
            rw [e1, e2, e3, hS', nI_add, nI_add, nI_add]
            congr 1
            show _ = _ + (sm (fun x => d3 mk x y) x + d3 mk x y)
            have t0 : tDoor mk x y 0 0 = dr (mk x (y + 1)) (mk x y) := rfl
            have t1 : tDoor mk x y 0 1 = dr (mk x y) (mk (x + 1) y) := rfl
            have t2 : tDoor mk x y 0 2 = dr (mk (x + 1) y) (mk x (y + 1)) := rfl
            unfold d3
            rw [t0, t1, t2, dr_sym (mk x (y + 1)) (mk x y)]
            omega
          refine ⟨[], _, m_isDoor l (mk x y) (mk (x + 1) y) l2 l0 _ _ n1 n2, fun r hc' hP _ => ?_⟩
          obtain ⟨rfl, rfl⟩ := hP
          refine And.intro (fun q1 => ?_) (fun q1 => ?_)
          · refine ⟨[], _, m_isDoor l (mk x y) (mk x (y + 1)) l2 l1 _ _ n1 n3, fun r hc' hP _ => ?_⟩
            obtain ⟨rfl, rfl⟩ := hP
            refine And.intro (fun q2 => ?_) (fun q2 => ?_)
            · refine ⟨[], _, m_isDoor l (mk (x + 1) y) (mk x (y + 1)) l0 l1 _ _ n2 n3, fun r hc' hP _ => ?_⟩
              obtain ⟨rfl, rfl⟩ := hP
              refine And.intro (fun q3 => ?_) (fun q3 => ?_)
              · exact fin 0 0 0 (by rw [b2i0 q1]; rfl) (by rw [b2i0 q2]; rfl) (by rw [b2i0 q3]; rfl)
              · exact fin 0 0 1 (by rw [b2i0 q1]; rfl) (by rw [b2i0 q2]; rfl) (by rw [b2i1 q3]; rfl)
            · refine ⟨[], _, m_isDoor l (mk (x + 1) y) (mk x (y + 1)) l0 l1 _ _ n2 n3, fun r hc' hP _ => ?_⟩
              obtain ⟨rfl, rfl⟩ := hP
              refine And.intro (fun q3 => ?_) (fun q3 => ?_)
              · exact fin 0 1 0 (by rw [b2i0 q1]; rfl) (by rw [b2i1 q2]; rfl) (by rw [b2i0 q3]; rfl)
              · exact fin 0 1 1 (by rw [b2i0 q1]; rfl) (by rw [b2i1 q2]; rfl) (by rw [b2i1 q3]; rfl)
          · refine ⟨[], _, m_isDoor l (mk x y) (mk x (y + 1)) l2 l1 _ _ n1 n3, fun r hc' hP _ => ?_⟩
            obtain ⟨rfl, rfl⟩ := hP
            refine And.intro (fun q2 => ?_) (fun q2 => ?_)
            · refine ⟨[], _, m_isDoor l (mk (x + 1) y) (mk x (y + 1)) l0 l1 _ _ n2 n3, fun r hc' hP _ => ?_⟩
              obtain ⟨rfl, rfl⟩ := hP
              refine And.intro (fun q3 => ?_) (fun q3 => ?_)
              · exact fin 1 0 0 (by rw [b2i1 q1]; rfl) (by rw [b2i0 q2]; rfl) (by rw [b2i0 q3]; rfl)
              · exact fin 1 0 1 (by rw [b2i1 q1]; rfl) (by rw [b2i0 q2]; rfl) (by rw [b2i1 q3]; rfl)
            · refine ⟨[], _, m_isDoor l (mk (x + 1) y) (mk x (y + 1)) l0 l1 _ _ n2 n3, fun r hc' hP _ => ?_⟩
              obtain ⟨rfl, rfl⟩ := hP
              refine And.intro (fun q3 => ?_) (fun q3 => ?_)
              · exact fin 1 1 0 (by rw [b2i1 q1]; rfl) (by rw [b2i1 q2]; rfl) (by rw [b2i0 q3]; rfl)
              · exact fin 1 1 1 (by rw [b2i1 q1]; rfl) (by rw [b2i1 q2]; rfl) (by rw [b2i1 q3]; rfl)
      obtain ⟨hB', -⟩ := MT_keep (nk := nk) (rm := rm) (ln := ln) (lg := lg) hB hW hn
      refine hK [(19, [0, 1, 2, 3])] 60 9 _ _ _ ?_
      refine And.intro (fun q => absurd q (by show ¬ nt' 0 ≤ nI y; rw [hB'.2.2.2.1]; exact nI_ge (by omega) (by omega))) (fun _ => ?_)
      exact inner (N - y) 0 (by omega) nt' hn S 0 (by rw [hS]; rfl) rfl
  refine hK [(9, [0, 1, 2])] 60 0 _ _ _ ?_
  exact outer N 0 (by omega) nt (fun _ _ _ _ => rfl) 0 0 rfl rfl
