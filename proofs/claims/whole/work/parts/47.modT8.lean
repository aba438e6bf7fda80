/-! ===== the reference: walk ===== -/
/-- the reference's number of a side -/
def byS (k s : Nat) : Nat := if k = 0 then (if s = 0 then 1 else if s = 1 then 0 else 2) else s
def nxt (by_ a b c : Nat) : Option Nat := if by_ ≠ 0 ∧ dr a b = true then some 0 else if by_ ≠ 1 ∧ dr a c = true then some 1 else if by_ ≠ 2 ∧ dr b c = true then some 2 else none
def cv (p q r : Nat) : Nat → Nat
  | 0 => p
  | 1 => q
  | _ => r
def othv (p q r s : Nat) : Option Nat := if cv p q r s = 2 then none else if cv p q r ((s + 1) % 3) = cv p q r s then some ((s + 1) % 3) else some ((s + 2) % 3)
theorem nxt_0 : ∀ p : Nat, p < 3 → ∀ q : Nat, q < 3 → ∀ r : Nat, r < 3 → ∀ s : Nat, s < 3 → dr (cv p q r ((s + 1) % 3)) (cv p q r ((s + 2) % 3)) = false ∨ oI (nxt (byS 0 s) r p q) = oI ((othv p q r s).map (byS 0)) := by decide +kernel
theorem nxt_1 : ∀ p : Nat, p < 3 → ∀ q : Nat, q < 3 → ∀ r : Nat, r < 3 → ∀ s : Nat, s < 3 → dr (cv p q r ((s + 1) % 3)) (cv p q r ((s + 2) % 3)) = false ∨ oI (nxt (byS 1 s) r q p) = oI ((othv p q r s).map (byS 1)) := by decide +kernel
theorem nxt_oth {N : Nat} {mk : Nat → Nat → Nat} (hok : mkOk N mk) {x y k s : Nat} (hT : isT N x y k) (hs : s < 3) (hd : tDoor mk x y k s = true) : oI (nxt (byS k s) (cm mk x y k 2) (mk (x + 1) y) (mk x (y + 1))) = oI ((oth mk x y k s).map (byS k)) := by
  have l0 := cm_le hok hT 0
  have l1 := cm_le hok hT 1
  have l2 := cm_le hok hT 2
  rcases hT with ⟨rfl, _⟩ | ⟨rfl, _⟩
  · have g := nxt_0 (cm mk x y 0 0) (by omega) (cm mk x y 0 1) (by omega) (cm mk x y 0 2) (by omega) s hs
    rcases (by omega : s = 0 ∨ s = 1 ∨ s = 2) with rfl | rfl | rfl
    · exact g.resolve_left (by intro z; exact absurd (hd.symm.trans z) (by decide))
    · exact g.resolve_left (by intro z; exact absurd (hd.symm.trans z) (by decide))
    · exact g.resolve_left (by intro z; exact absurd (hd.symm.trans z) (by decide))
  · have g := nxt_1 (cm mk x y 1 0) (by omega) (cm mk x y 1 1) (by omega) (cm mk x y 1 2) (by omega) s hs
    rcases (by omega : s = 0 ∨ s = 1 ∨ s = 2) with rfl | rfl | rfl
    · exact g.resolve_left (by intro z; exact absurd (hd.symm.trans z) (by decide))
    · exact g.resolve_left (by intro z; exact absurd (hd.symm.trans z) (by decide))
    · exact g.resolve_left (by intro z; exact absurd (hd.symm.trans z) (by decide))
theorem m_walk (l : Launch) (N : Nat) (mk : Nat → Nat → Nat) (w : Option wEnd) (nk rm : Nat → Int32) (ln : Int32) (lg : Nat → Int64) (h : xH) (hH : MT N mk w nk rm ln lg h) (k : Int32) : Ev l zX5_walk [.inr (40, 0), vI k] h (fun r h' => (outD N mk k = false ∧ r = some (vI (-1)) ∧ MT N mk w nk rm ln lg h') ∨ (outD N mk k = true ∧ ∀ n e, wRes N mk k.toInt.toNat n e → r = some (vI (nI (n + 1))) ∧ MT N mk (some e) nk rm ln lg h')) := by
  obtain ⟨th, nt, ma, rfl, hB, hW⟩ := hH
  obtain ⟨hN1, h20, hok, hsz, hma⟩ := id hB
  refine ev_all okX5_walk (by decide +kernel) (Nat.le_of_ble_eq_true rfl) ?_
  intro K hK
  refine hK [(43, [0, 1, 2, 3, 4, 5, 6, 7])] 60 0 _ _ _ ?_
  refine ⟨[40, 46], _, m_isOuter l N mk 0 nk nt rm ln lg ma hB k, fun r hc' hP _ => ?_⟩
  obtain ⟨rfl, rfl⟩ := hP
  refine And.intro (fun q => ?_) (fun q => ?_)
  · have hout := b2i1 q
    have hout2 := hout
    unfold outD at hout2
    rw [Bool.and_eq_true, decide_eq_true_eq] at hout2
    obtain ⟨d, hd, rfl, hdt⟩ := nI_arg (x := k) hout2.1.1
    have hdN : d < N := by have := hout2.1.2; omega
    have hdoor : tDoor mk d (N - 1 - d) 0 2 = true := by
      have := hout2.2
      rw [hdt] at this
      exact this
    obtain ⟨n, e, hR⟩ := walk_ends hok hdN hdoor
    obtain ⟨-, hw, hend, hnN⟩ := hR
    have huniq : ∀ n' e', wRes N mk d n' e' → n' = n ∧ e' = e := by
      intro n' e' hR'
      obtain ⟨-, hw', hend', -⟩ := hR'
      have hn : n' = n := by
        rcases Nat.lt_trichotomy n' n with z | z | z
        · have := hw.2 n' z
          rw [hend'] at this
          cases this
        · exact z
        · have := hw'.2 n z
          rw [hend] at this
          cases this
      subst hn
      rw [hend] at hend'
      cases hend'
      exact ⟨rfl, rfl⟩
    refine And.intro (Or.inr rfl) ?_
    generalize hs : wSeq N mk (d, N - 1 - d, 0, 2) = s at hw hend
    have hNN : N * N ≤ 400 := Nat.mul_le_mul h20 h20
    -- a walk that has ended
    have at43e : ∀ (X Y U B G : Int32) (nt' : Nat → Int32), G = nI (n + 1) → MT N mk (some e) nk rm ln lg (mtH 0 nk nt' rm ln lg ma) → K 43 [(0, .inr (40, 0)), (1, vI (nI d)), (2, vI X), (3, vI Y), (4, vI U), (5, vI B), (6, vI G), (7, vI 0)] [] (mtH 0 nk nt' rm ln lg ma) := by
      intro X Y U B G nt' hG hM
      subst hG
      refine hK [] 60 43 _ _ _ ?_
      refine And.intro (fun _ => ?_) (fun z => absurd rfl z)
      refine And.intro (Or.inr ⟨hout, fun n' e' hR' => ?_⟩) rfl
      rw [hdt] at hR'
      obtain ⟨rfl, rfl⟩ := huniq n' e' hR'
      exact ⟨rfl, hM⟩
    have at297 : ∀ (X Y U B G : Int32) (nt' : Nat → Int32), G = nI (n + 1) → MT N mk (some e) nk rm ln lg (mtH 0 nk nt' rm ln lg ma) → K 297 [(0, .inr (40, 0)), (1, vI (nI d)), (2, vI X), (3, vI Y), (4, vI U), (5, vI B), (6, vI G), (7, vI 0)] [] (mtH 0 nk nt' rm ln lg ma) := by
      intro X Y U B G nt' hG hM
      refine hK [(43, [0, 1, 2, 3, 4, 5, 6, 7])] 60 297 _ _ _ ?_
      refine And.intro (fun _ => ?_) (fun z => absurd rfl z)
      exact at43e X Y (1 - U) B (G + 0) nt' (by rw [hG, Int32.add_zero]) hM
    have at297g : ∀ (X Y U B G : Int32) (hp : xH), K 43 [(0, .inr (40, 0)), (1, vI (nI d)), (2, vI X), (3, vI Y), (4, vI (1 - U)), (5, vI B), (6, vI (G + 1)), (7, vI 1)] [] hp → K 297 [(0, .inr (40, 0)), (1, vI (nI d)), (2, vI X), (3, vI Y), (4, vI U), (5, vI B), (6, vI G), (7, vI 1)] [] hp := by
      intro X Y U B G hp hk
      refine hK [(43, [0, 1, 2, 3, 4, 5, 6, 7])] 60 297 _ _ _ ?_
      exact And.intro (fun z => absurd z (by decide)) (fun _ => hk)
    -- the choice of the next door
    have pick : ∀ (X Y U G : Int32) (b p q r : Nat) (nt' : Nat → Int32), b < 3 → p ≤ 2 → q ≤ 2 → r ≤ 2 → nt' 1 = nI p → nt' 2 = nI q → nt' 3 = nI r → K 144 [(0, .inr (40, 0)), (1, vI (nI d)), (2, vI X), (3, vI Y), (4, vI U), (5, vI (nI b)), (6, vI G), (7, vI 1)] [vI (oI (nxt b p q r))] (mtH 0 nk nt' rm ln lg ma) → K 72 [(0, .inr (40, 0)), (1, vI (nI d)), (2, vI X), (3, vI Y), (4, vI U), (5, vI (nI b)), (6, vI G), (7, vI 1)] [] (mtH 0 nk nt' rm ln lg ma) := by
      intro X Y U G b p q r nt' hb hp hq hr n1 n2 n3 hk
      have eb : ∀ {m : Nat}, m < 3 → (nI b = nI m ↔ b = m) := fun {m} hm => nI_eq (by omega) (by omega)
      unfold nxt at hk
      have at119 : (K 144 [(0, .inr (40, 0)), (1, vI (nI d)), (2, vI X), (3, vI Y), (4, vI U), (5, vI (nI b)), (6, vI G), (7, vI 1)] [vI (oI (if b ≠ 2 ∧ dr q r = true then some 2 else none))] (mtH 0 nk nt' rm ln lg ma)) → K 119 [(0, .inr (40, 0)), (1, vI (nI d)), (2, vI X), (3, vI Y), (4, vI U), (5, vI (nI b)), (6, vI G), (7, vI 1)] [] (mtH 0 nk nt' rm ln lg ma) := by
        intro hk
        refine hK [(144, [0, 1, 2, 3, 4, 5, 6, 7])] 60 119 _ _ _ ?_
        refine And.intro (fun z => ?_) (fun z => ?_)
        · have z : b = 2 := (eb (m := 2) (by omega)).mp z
          rw [if_neg (fun w => w.1 z)] at hk
          exact hk
        · have z : ¬ b = 2 := fun w => z ((eb (m := 2) (by omega)).mpr w)
          refine ⟨[], _, m_isDoor l q r hq hr _ _ n2 n3, fun r hc' hP _ => ?_⟩
          obtain ⟨rfl, rfl⟩ := hP
          refine And.intro (fun v => ?_) (fun v => ?_)
          · rw [if_neg (fun w => by rw [b2i0 v] at w; cases w.2)] at hk
            exact hk
          · rw [if_pos ⟨z, b2i1 v⟩] at hk
            exact hk
      have at95 : (K 144 [(0, .inr (40, 0)), (1, vI (nI d)), (2, vI X), (3, vI Y), (4, vI U), (5, vI (nI b)), (6, vI G), (7, vI 1)] [vI (oI (if b ≠ 1 ∧ dr p r = true then some 1 else if b ≠ 2 ∧ dr q r = true then some 2 else none))] (mtH 0 nk nt' rm ln lg ma)) → K 95 [(0, .inr (40, 0)), (1, vI (nI d)), (2, vI X), (3, vI Y), (4, vI U), (5, vI (nI b)), (6, vI G), (7, vI 1)] [] (mtH 0 nk nt' rm ln lg ma) := by
        intro hk
        refine hK [(144, [0, 1, 2, 3, 4, 5, 6, 7]), (119, [0, 1, 2, 3, 4, 5, 6, 7])] 60 95 _ _ _ ?_
        refine And.intro (fun z => ?_) (fun z => ?_)
        · have z : b = 1 := (eb (m := 1) (by omega)).mp z
          rw [if_neg (fun w => w.1 z)] at hk
          exact at119 hk
        · have z : ¬ b = 1 := fun w => z ((eb (m := 1) (by omega)).mpr w)
          refine ⟨[], _, m_isDoor l p r hp hr _ _ n1 n3, fun r hc' hP _ => ?_⟩
          obtain ⟨rfl, rfl⟩ := hP
          refine And.intro (fun v => ?_) (fun v => ?_)
          · rw [if_neg (fun w => by rw [b2i0 v] at w; cases w.2)] at hk
            exact at119 hk
          · rw [if_pos ⟨z, b2i1 v⟩] at hk
            exact hk
      refine hK [(144, [0, 1, 2, 3, 4, 5, 6, 7]), (95, [0, 1, 2, 3, 4, 5, 6, 7])] 60 72 _ _ _ ?_
      refine And.intro (fun z => ?_) (fun z => ?_)
      · have z : b = 0 := (eb (m := 0) (by omega)).mp z
        rw [if_neg (fun w => w.1 z)] at hk
        exact at95 hk
      · have z : ¬ b = 0 := fun w => z ((eb (m := 0) (by omega)).mpr w)
        refine ⟨[], _, m_isDoor l p q hp hq _ _ n1 n2, fun r hc' hP _ => ?_⟩
        obtain ⟨rfl, rfl⟩ := hP
        refine And.intro (fun v => ?_) (fun v => ?_)
        · rw [if_neg (fun w => by rw [b2i0 v] at w; cases w.2)] at hk
          exact at95 hk
        · rw [if_pos ⟨z, b2i1 v⟩] at hk
          exact hk
    have loop : ∀ (f i : Nat), i + f = n → ∀ (nt' : Nat → Int32), nt' 0 = nI N → nt' 4 = 1 → ∀ X Y U B G : Int32, X = nI (s i).1 → Y = nI (s i).2.1 → U = nI (s i).2.2.1 → B = nI (byS (s i).2.2.1 (s i).2.2.2) → G = nI (i + 1) → K 43 [(0, .inr (40, 0)), (1, vI (nI d)), (2, vI X), (3, vI Y), (4, vI U), (5, vI B), (6, vI G), (7, vI 1)] [] (mtH 0 nk nt' rm ln lg ma) := by
      intro f
      induction f with
      | zero => ?_
      | succ f ih => ?_
      all_goals
        intro i hi nt' n0 n4 X Y U B G hX hY hU hB2 hG
        have hin : i ≤ n := by omega
        have oi := isWalk_ok hok hw i hin
        have hT := oi.1
        have hk01 : (s i).2.2.1 = 0 ∨ (s i).2.2.1 = 1 := by
          rcases hT with ⟨q, _⟩ | ⟨q, _⟩
          · exact Or.inl q
          · exact Or.inr q
        have hbd : (s i).1 + (s i).2.1 + 1 ≤ N := by rcases hT with ⟨_, q⟩ | ⟨_, q⟩ <;> omega
        have hby : byS (s i).2.2.1 (s i).2.2.2 < 3 := by
          have := oi.2.1
          unfold byS
          split
          · split
            · omega
            · split <;> omega
          · omega
        have l2 := cm_le hok hT 2
        have l0 := (hok ((s i).1 + 1) (s i).2.1 (by omega)).1
        have l1 := (hok (s i).1 ((s i).2.1 + 1) (by omega)).1
        have hno := nxt_oth hok hT oi.2.1 oi.2.2
        subst hX; subst hY; subst hU; subst hB2; subst hG
        refine hK [(72, [0, 1, 2, 3, 4, 5, 6, 7])] 60 43 _ _ _ ?_
        refine And.intro (fun z => absurd z (by decide)) (fun _ => ?_)
        refine ⟨[40, 46], _, m_thirdIs l N mk 0 nk (upd (upd (upd nt' 6 (nI (s i).1)) 7 (nI (s i).2.1)) 8 (nI (s i).2.2.1)) rm ln lg ma h20 hma (s i).1 (s i).2.1 (s i).2.2.1 hT _ _ _ rfl rfl rfl, fun r hc' hP _ => ?_⟩
        obtain ⟨rfl, nt2, hn2, p1, p2, p3, rfl⟩ := hP
        refine pick _ _ _ _ _ _ _ _ nt2 hby l2 l0 l1 p1 p2 p3 ?_
        rw [hno]
        have g0 : nt2 0 = nI N := by rw [hn2 0 (by omega) (by omega) (by omega), pk_un (by omega), pk_un (by omega), pk_un (by omega)]; exact n0
        have g4 : nt2 4 = 1 := by rw [hn2 4 (by omega) (by omega) (by omega), pk_un (by omega), pk_un (by omega), pk_un (by omega)]; exact n4
        have g6 : nt2 6 = nI (s i).1 := by rw [hn2 6 (by omega) (by omega) (by omega), pk_un (by omega), pk_un (by omega), pk_us]
        have g7 : nt2 7 = nI (s i).2.1 := by rw [hn2 7 (by omega) (by omega) (by omega), pk_un (by omega), pk_us]
        have g8 : nt2 8 = nI (s i).2.2.1 := by rw [hn2 8 (by omega) (by omega) (by omega), pk_us]
      · -- the end
        have hi : i = n := hi
        subst hi
        unfold wStep at hend
        cases ho : oth mk (s i).1 (s i).2.1 (s i).2.2.1 (s i).2.2.2 with
        | none =>
          simp only [ho] at hend
          have hend := Sum.inl.inj hend
          have hM : MT N mk (some e) nk rm ln lg (mtH 0 nk (upd (upd nt2 5 1) 9 (-1)) rm ln lg ma) := by
            rw [← hend]
            refine ⟨0, _, ma, rfl, ⟨hN1, h20, hok, by rw [pk_un (by omega), pk_un (by omega)]; exact g0, hma⟩, ?_⟩
            exact ⟨by rw [pk_un (by omega), pk_un (by omega)]; exact g4, by rw [pk_un (by omega), pk_us]; rfl, by rw [pk_un (by omega), pk_un (by omega)]; exact g6, by rw [pk_un (by omega), pk_un (by omega)]; exact g7, by rw [pk_un (by omega), pk_un (by omega)]; exact g8, by rw [pk_us]; rfl⟩
          rw [show Option.map (byS (s i).2.2.1) (none : Option Nat) = none from rfl]
          refine hK [(297, [0, 1, 2, 3, 4, 5, 6, 7])] 60 144 _ _ _ ?_
          refine And.intro (fun z => absurd rfl z) (fun _ => ?_)
          refine And.intro (fun _ => ?_) (fun z => absurd rfl z)
          refine And.intro (fun _ => ?_) (fun z => absurd z (by decide))
          refine And.intro (fun _ => ?_) (fun z => absurd z (by decide))
          refine And.intro (fun _ => ?_) (fun z => absurd z (by decide))
          refine And.intro (fun _ => ?_) (fun z => absurd z (by decide))
          exact at297 _ _ _ _ _ _ rfl hM
        | some t =>
          simp only [ho] at hend
          by_cases hc : (s i).2.2.1 = 0 ∧ t = 2 ∧ (s i).1 + (s i).2.1 + 1 = N
          · rw [if_pos hc] at hend
            have hend := Sum.inl.inj hend
            obtain ⟨c1, c2, c3⟩ := hc
            subst c2
            have hM : MT N mk (some e) nk rm ln lg (mtH 0 nk (upd (upd (upd nt2 5 0) 9 (-1)) 9 (nI (s i).1)) rm ln lg ma) := by
              rw [← hend]
              refine ⟨0, _, ma, rfl, ⟨hN1, h20, hok, by rw [pk_un (by omega), pk_un (by omega), pk_un (by omega)]; exact g0, hma⟩, ?_⟩
              exact ⟨by rw [pk_un (by omega), pk_un (by omega), pk_un (by omega)]; exact g4, by rw [pk_un (by omega), pk_un (by omega), pk_us]; rfl, by rw [pk_un (by omega), pk_un (by omega), pk_un (by omega)]; exact g6, by rw [pk_un (by omega), pk_un (by omega), pk_un (by omega)]; exact g7, by rw [pk_un (by omega), pk_un (by omega), pk_un (by omega)]; exact g8, by rw [pk_us]; rfl⟩
            have e2 : (Option.map (byS (s i).2.2.1) (some 2)) = some 2 := by rw [c1]; rfl
            rw [e2]
            refine hK [(297, [0, 1, 2, 3, 4, 5, 6, 7])] 60 144 _ _ _ ?_
            refine And.intro (fun _ => ?_) (fun z => absurd z (by decide))
            refine And.intro (fun z => absurd z (by decide)) (fun _ => ?_)
            refine And.intro (fun z => absurd rfl z) (fun _ => ?_)
            refine And.intro (fun z => absurd (by rw [c1]; rfl) z) (fun _ => ?_)
            refine And.intro (fun z => absurd (show nI (s i).1 + nI (s i).2.1 = nt2 0 - 1 by rw [g0, nI_add, show (1 : Int32) = nI 1 from rfl, pk_sub (by omega)]; congr 1; omega) z) (fun _ => ?_)
            exact at297 _ _ _ _ _ _ rfl hM
          · rw [if_neg hc] at hend
            cases hend
      · -- on
        have hst := hw.2 i (by omega)
        unfold wStep at hst
        cases ho : oth mk (s i).1 (s i).2.1 (s i).2.2.1 (s i).2.2.2 with
        | none =>
          simp only [ho] at hst
          cases hst
        | some t =>
          simp only [ho] at hst
          by_cases hc : (s i).2.2.1 = 0 ∧ t = 2 ∧ (s i).1 + (s i).2.1 + 1 = N
          · rw [if_pos hc] at hst
            cases hst
          · rw [if_neg hc] at hst
            have hst : wGo (s i).1 (s i).2.1 (s i).2.2.1 t = s (i + 1) := Sum.inr.inj hst
            obtain ⟨t3, tne, td⟩ := oth_door hok oi.1 oi.2.1 oi.2.2 ho
            have hx1 : (s i).2.2.1 = 0 → t = 0 → 1 ≤ (s i).1 := by
              intro k0 t0
              rw [k0, t0] at td
              have td : dr (mk (s i).1 ((s i).2.1 + 1)) (mk (s i).1 (s i).2.1) = true := td
              rw [dr_iff] at td
              have a1 := (hok (s i).1 ((s i).2.1 + 1) (by omega)).2.1
              have a2 := (hok (s i).1 (s i).2.1 (by omega)).2.1
              omega
            have hy1 : (s i).2.2.1 = 0 → t = 1 → 1 ≤ (s i).2.1 := by
              intro k0 t0
              rw [k0, t0] at td
              have td : dr (mk (s i).1 (s i).2.1) (mk ((s i).1 + 1) (s i).2.1) = true := td
              rw [dr_iff] at td
              have a1 := (hok (s i).1 (s i).2.1 (by omega)).2.2.1
              have a2 := (hok ((s i).1 + 1) (s i).2.1 (by omega)).2.2.1
              omega
            have next : ∀ X Y U B : Int32, X = nI (wGo (s i).1 (s i).2.1 (s i).2.2.1 t).1 → Y = nI (wGo (s i).1 (s i).2.1 (s i).2.2.1 t).2.1 → U = nI (s i).2.2.1 → B = nI (byS (1 - (s i).2.2.1) t) → K 297 [(0, .inr (40, 0)), (1, vI (nI d)), (2, vI X), (3, vI Y), (4, vI U), (5, vI B), (6, vI (nI (i + 1))), (7, vI 1)] [] (mtH 0 nk (upd (upd nt2 5 0) 9 (-1)) rm ln lg ma) := by
              intro X Y U B hX hY hU hB2
              refine at297g _ _ _ _ _ _ ?_
              refine ih (i + 1) (by omega) (upd (upd nt2 5 0) 9 (-1)) (by rw [pk_un (by omega), pk_un (by omega)]; exact g0) (by rw [pk_un (by omega), pk_un (by omega)]; exact g4) X Y (1 - U) B (nI (i + 1) + 1) (by rw [← hst]; exact hX) (by rw [← hst]; exact hY) ?_ ?_ (nI_1 (i + 1))
              · rw [← hst, hU]
                show 1 - nI (s i).2.2.1 = nI (1 - (s i).2.2.1)
                exact pk_sub (a := 1) (by omega)
              · rw [← hst]
                exact hB2
            have at213 : ∀ (p : Nat), p = byS (s i).2.2.1 t → K 213 [(0, .inr (40, 0)), (1, vI (nI d)), (2, vI (nI (s i).1)), (3, vI (nI (s i).2.1)), (4, vI (nI (s i).2.2.1)), (5, vI (nI (byS (s i).2.2.1 (s i).2.2.2))), (6, vI (nI (i + 1))), (7, vI 1), (8, vI (nI p))] [] (mtH 0 nk (upd (upd nt2 5 0) 9 (-1)) rm ln lg ma) := by
              intro p hp
              revert hx1 hy1 next hp
              generalize (s i).1 = x
              generalize (s i).2.1 = y
              generalize byS (s i).2.2.1 (s i).2.2.2 = by_
              generalize (s i).2.2.1 = kk at hk01 ⊢
              intro hx1 hy1 next hp
              have z0 : ∀ m : Nat, nI m - 0 = nI m := fun m => Int32.sub_zero _
              have a0 : ∀ m : Nat, nI m + 0 = nI m := fun m => Int32.add_zero _
              rcases hk01 with rfl | rfl <;> rcases (by omega : t = 0 ∨ t = 1 ∨ t = 2) with rfl | rfl | rfl <;> subst hp
              · have hx1 := hx1 rfl rfl
                refine hK [(297, [0, 1, 2, 3, 4, 5, 6, 7])] 60 213 _ _ _ ?_
                refine And.intro (fun _ => ?_) (fun z => absurd z (by decide))
                refine And.intro (fun z => absurd rfl z) (fun _ => ?_)
                refine And.intro (fun z => absurd rfl z) (fun _ => ?_)
                refine And.intro (fun z => absurd rfl z) (fun _ => ?_)
                refine next _ _ _ _ ?_ ?_ rfl rfl
                · show nI x - nI 1 = nI (x - 1)
                  exact pk_sub hx1
                · exact a0 y
              · have hy1 := hy1 rfl rfl
                refine hK [(297, [0, 1, 2, 3, 4, 5, 6, 7])] 60 213 _ _ _ ?_
                refine And.intro (fun z => absurd rfl z) (fun _ => ?_)
                refine And.intro (fun z => absurd rfl z) (fun _ => ?_)
                refine And.intro (fun z => absurd rfl z) (fun _ => ?_)
                refine next _ _ _ _ ?_ ?_ rfl rfl
                · exact a0 x
                · show nI y - nI 1 = nI (y - 1)
                  exact pk_sub hy1
              · refine hK [(297, [0, 1, 2, 3, 4, 5, 6, 7])] 60 213 _ _ _ ?_
                refine And.intro (fun _ => ?_) (fun z => absurd z (by decide))
                refine And.intro (fun _ => ?_) (fun z => absurd z (by decide))
                refine And.intro (fun z => absurd rfl z) (fun _ => ?_)
                exact next _ _ _ _ rfl rfl rfl rfl
              · refine hK [(297, [0, 1, 2, 3, 4, 5, 6, 7])] 60 213 _ _ _ ?_
                refine And.intro (fun z => absurd rfl z) (fun _ => ?_)
                refine And.intro (fun _ => ?_) (fun z => absurd z (by decide))
                refine And.intro (fun _ => ?_) (fun z => absurd z (by decide))
                refine next _ _ _ _ ?_ ?_ rfl rfl
                · exact nI_1 x
                · exact z0 y
              · refine hK [(297, [0, 1, 2, 3, 4, 5, 6, 7])] 60 213 _ _ _ ?_
                refine And.intro (fun _ => ?_) (fun z => absurd z (by decide))
                refine And.intro (fun z => absurd rfl z) (fun _ => ?_)
                refine And.intro (fun _ => ?_) (fun z => absurd z (by decide))
                refine And.intro (fun _ => ?_) (fun z => absurd z (by decide))
                refine next _ _ _ _ ?_ ?_ rfl rfl
                · exact z0 x
                · exact nI_1 y
              · refine hK [(297, [0, 1, 2, 3, 4, 5, 6, 7])] 60 213 _ _ _ ?_
                refine And.intro (fun _ => ?_) (fun z => absurd z (by decide))
                refine And.intro (fun _ => ?_) (fun z => absurd z (by decide))
                refine And.intro (fun z => absurd rfl z) (fun _ => ?_)
                exact next _ _ _ _ rfl rfl rfl rfl
            have hb3 : byS (s i).2.2.1 t < 3 := by
              unfold byS
              split
              · split
                · omega
                · split <;> omega
              · omega
            have hne : ¬ nI (byS (s i).2.2.1 t) = -1 := by
              intro z
              have z2 := congrArg Int32.toInt z
              rw [nI_toInt (by omega), show (-1 : Int32).toInt = -1 by decide] at z2
              omega
            refine hK [(213, [0, 1, 2, 3, 4, 5, 6, 7, 8]), (297, [0, 1, 2, 3, 4, 5, 6, 7])] 60 144 _ _ _ ?_
            refine And.intro (fun _ => ?_) (fun z => absurd z hne)
            refine And.intro (fun z => absurd z hne) (fun _ => ?_)
            refine And.intro (fun _ => at213 _ rfl) (fun z => ?_)
            refine And.intro (fun _ => at213 _ rfl) (fun zk => ?_)
            refine And.intro (fun _ => at213 _ rfl) (fun zo => ?_)
            exfalso
            apply hc
            have zk : (s i).2.2.1 = 0 := (nI_eq (a := (s i).2.2.1) (b := 0) (by omega) (by omega)).mp zk
            have z : byS (s i).2.2.1 t = 2 := (nI_eq (a := byS (s i).2.2.1 t) (b := 2) (by omega) (by omega)).mp z
            refine ⟨zk, ?_, ?_⟩
            · rw [zk] at z
              rcases (by omega : t = 0 ∨ t = 1 ∨ t = 2) with rfl | rfl | rfl
              · exact absurd z (by decide)
              · exact absurd z (by decide)
              · rfl
            · have zo : nI (s i).1 + nI (s i).2.1 = nt2 0 - 1 := zo
              rw [g0, nI_add, show (1 : Int32) = nI 1 from rfl, pk_sub (by omega), nI_eq (by omega) (by omega)] at zo
              omega
    have h0 : s 0 = (d, N - 1 - d, 0, 2) := by rw [← hs]; rfl
    refine loop n 0 (by omega) (upd nt 4 1) (by rw [pk_un (by omega)]; exact hsz) pk_us _ _ _ _ _ (by rw [h0]) ?_ (by rw [h0]; rfl) (by rw [h0]; rfl) rfl
    rw [h0]
    show nt 0 - nI d - 1 = nI (N - 1 - d)
    rw [hsz, pk_sub (by omega), show (1 : Int32) = nI 1 from rfl, pk_sub (by omega)]
    congr 1
    omega
  · refine And.intro (Or.inl ⟨b2i0 q, rfl, 0, nt, ma, rfl, hB, hW⟩) rfl
