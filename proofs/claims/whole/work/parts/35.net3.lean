/-! ===== Net: counts, the end of a walk ===== -/
def sm (f : Nat → Nat) : Nat → Nat
  | 0 => 0
  | n + 1 => sm f n + f n
theorem sm_congr {f g : Nat → Nat} : ∀ {n : Nat}, (∀ i, i < n → f i = g i) → sm f n = sm g n
  | 0, _ => rfl
  | n + 1, h => by
    unfold sm
    rw [sm_congr (fun i hi => h i (by omega)), h n (by omega)]
def c1 (b : Bool) : Nat := cond b 1 0
theorem c1_step {A B : Prop} {b : Bool} {x : Int32} {n : Nat} (hx : x = nI n) (K : Int32 → Prop) (h : ∀ y : Int32, y = nI (n + c1 b) → K y) : (b2i b = 0 → K (x + 0)) ∧ (¬ b2i b = 0 → K (x + 1)) := by
  constructor
  · intro q
    refine h _ ?_
    rw [b2i0 q, hx, Int32.add_zero]
    rfl
  · intro q
    refine h _ ?_
    rw [b2i1 q, hx, nI_1]
    rfl
def qDoors (N : Nat) (mk : Nat → Nat → Nat) : Nat := sm (fun d => c1 (tDoor mk d (N - 1 - d) 0 2)) N
theorem c_outer (l : Launch) (N : Nat) (mk : Nat → Nat → Nat) (w : Option wEnd) (h : xH) (hH : TH N mk w h) : Ev l zX2_countOuterDoors [.inr (6, 0)] h (fun r h' => r = some (vI (nI (qDoors N mk))) ∧ h' = h) := by
  obtain ⟨ma, sz, wk, ax, ay, ak, ob, rfl, hB, hW⟩ := hH
  obtain ⟨hN1, h20, hok, rfl, hma⟩ := id hB
  refine ev_all okX2_countOuterDoors (by decide +kernel) (Nat.le_of_ble_eq_true rfl) ?_
  intro K hK
  have loop : ∀ (e d : Nat), d + e = N → ∀ S y : Int32, S = nI (sm (fun d => c1 (tDoor mk d (N - 1 - d) 0 2)) d) → y = nI d → K 4 [(0, .inr (6, 0)), (1, vI S), (2, vI y)] [] (ntH ma (nI N) wk ax ay ak ob) := by
    intro e
    induction e with
    | zero =>
      intro d hd S y hS hy
      have hd : d = N := hd
      subst hd; subst hy
      refine hK [] 40 4 _ _ _ ?_
      refine And.intro (fun _ => ?_) (fun q => absurd (Int32.le_refl _) q)
      exact And.intro ⟨by rw [hS]; rfl, rfl⟩ rfl
    | succ e ih =>
      intro d hd S y hS hy
      subst hy
      refine hK [(4, [0, 1, 2])] 40 4 _ _ _ ?_
      refine And.intro (fun q => absurd q (nI_ge (by omega) (by omega))) (fun _ => ?_)
      have e1 : outD N mk (nI d) = tDoor mk d (N - 1 - d) 0 2 := by
        unfold outD
        rw [nI_toInt (by omega), decide_eq_true (by omega)]
        rfl
      refine ⟨[6, 7], _, c_isOuter l N mk ma (nI N) wk ax ay ak ob hB (nI d), fun r hc' hP _ => ?_⟩
      obtain ⟨rfl, rfl⟩ := hP
      rw [e1]
      refine And.intro (fun q => ih (d + 1) (by omega) _ _ ?_ (nI_1 d)) (fun q => ih (d + 1) (by omega) _ _ ?_ (nI_1 d))
      · show S + 0 = nI (_ + c1 _)
        rw [b2i0 q, hS, Int32.add_zero]
        rfl
      · show S + 1 = nI (_ + c1 _)
        rw [b2i1 q, hS, nI_1]
        rfl
  refine hK [(4, [0, 1, 2])] 40 0 _ _ _ ?_
  exact loop N 0 (by omega) 0 0 rfl rfl
def d3 (mk : Nat → Nat → Nat) (x y : Nat) : Nat := c1 (tDoor mk x y 0 0) + c1 (tDoor mk x y 0 1) + c1 (tDoor mk x y 0 2)
def qDoorsAll (N : Nat) (mk : Nat → Nat → Nat) : Nat := sm (fun x => sm (fun y => d3 mk x y) (N - x)) N
theorem c_countDoors (l : Launch) (N : Nat) (mk : Nat → Nat → Nat) (w : Option wEnd) (h : xH) (hH : TH N mk w h) : Ev l zX2_countDoors [.inr (6, 0)] h (fun r h' => r = some (vI (nI (qDoorsAll N mk))) ∧ h' = h) := by
  obtain ⟨ma, sz, wk, ax, ay, ak, ob, rfl, hB, hW⟩ := hH
  obtain ⟨hN1, h20, hok, rfl, hma⟩ := id hB
  refine ev_all okX2_countDoors (by decide +kernel) (Nat.le_of_ble_eq_true rfl) ?_
  intro K hK
  have outer : ∀ (e x : Nat), x + e = N → ∀ S X : Int32, S = nI (sm (fun x => sm (fun y => d3 mk x y) (N - x)) x) → X = nI x → K 4 [(0, .inr (6, 0)), (1, vI S), (2, vI X)] [] (ntH ma (nI N) wk ax ay ak ob) := by
    intro e
    induction e with
    | zero =>
      intro x hx S X hS hX
      have hx : x = N := hx
      subst hx; subst hX
      refine hK [] 40 4 _ _ _ ?_
      refine And.intro (fun _ => ?_) (fun q => absurd (Int32.le_refl _) q)
      exact And.intro ⟨by rw [hS]; rfl, rfl⟩ rfl
    | succ e ih =>
      intro x hx S X hS hX
      subst hX
      have inner : ∀ (f y : Nat), y + f = N - x → ∀ S' Y : Int32, S' = nI (sm (fun x => sm (fun y => d3 mk x y) (N - x)) x + sm (fun y => d3 mk x y) y) → Y = nI y → K 14 [(0, .inr (6, 0)), (1, vI S'), (2, vI (nI x)), (3, vI Y)] [] (ntH ma (nI N) wk ax ay ak ob) := by
        intro f
        induction f with
        | zero =>
          intro y hy S' Y hS' hY
          have hy : y = N - x := hy
          subst hY
          refine hK [(4, [0, 1, 2])] 40 14 _ _ _ ?_
          refine And.intro (fun _ => ?_) (fun q => absurd (by show nI N ≤ nI x + nI y; rw [nI_add]; exact nI_le (by omega) (by omega)) q)
          refine ih (x + 1) (by omega) _ _ ?_ (nI_1 x)
          rw [hS', hy]
          rfl
        | succ f ihf =>
          intro y hy S' Y hS' hY
          subst hY
          have hT : isT N x y 0 := Or.inl ⟨rfl, by omega⟩
          have side : ∀ (s : Nat), s < 3 → ∀ (T y4 : Int32) (t : Nat), T = nI t → y4 = nI s → (∀ T' y' : Int32, T' = nI (t + c1 (tDoor mk x y 0 s)) → y' = nI (s + 1) → K 27 [(0, .inr (6, 0)), (1, vI T'), (2, vI (nI x)), (3, vI (nI y)), (4, vI y')] [] (ntH ma (nI N) wk ax ay ak ob)) → K 27 [(0, .inr (6, 0)), (1, vI T), (2, vI (nI x)), (3, vI (nI y)), (4, vI y4)] [] (ntH ma (nI N) wk ax ay ak ob) := by
            intro s hs T y4 t hT2 hy4 next
            subst hy4
            refine hK [(27, [0, 1, 2, 3, 4])] 40 27 _ _ _ ?_
            refine And.intro (fun q => absurd (show nI 3 ≤ nI s from q) (nI_ge (by omega) (by omega))) (fun _ => ?_)
            refine ⟨[6, 7], _, c_isDoor l N mk ma (nI N) wk ax ay ak ob hB x y 0 s hT hs _ _ _ _ rfl rfl rfl rfl, fun r hc' hP _ => ?_⟩
            obtain ⟨rfl, rfl⟩ := hP
            refine And.intro (fun q => next _ _ ?_ (nI_1 s)) (fun q => next _ _ ?_ (nI_1 s))
            · show T + 0 = _
              rw [b2i0 q, hT2, Int32.add_zero]
              rfl
            · show T + 1 = _
              rw [b2i1 q, hT2, nI_1]
              rfl
          refine hK [(27, [0, 1, 2, 3, 4])] 40 14 _ _ _ ?_
          refine And.intro (fun q => absurd q (by show ¬ nI N ≤ nI x + nI y; rw [nI_add]; exact nI_ge (by omega) (by omega))) (fun _ => ?_)
          refine side 0 (by omega) S' 0 _ hS' rfl (fun T1 y1 h1 e1 => ?_)
          refine side 1 (by omega) T1 y1 _ h1 e1 (fun T2 y2 h2 e2 => ?_)
          refine side 2 (by omega) T2 y2 _ h2 e2 (fun T3 y3 h3 e3 => ?_)
          subst e3
          refine hK [(14, [0, 1, 2, 3])] 40 27 _ _ _ ?_
          refine And.intro (fun _ => ?_) (fun q => absurd (Int32.le_refl _) q)
          refine ihf (y + 1) (by omega) _ _ ?_ (nI_1 y)
          rw [h3]
          congr 1
          show _ = _ + (sm (fun y => d3 mk x y) y + d3 mk x y)
          unfold d3
          omega
      refine hK [(14, [0, 1, 2, 3])] 40 4 _ _ _ ?_
      refine And.intro (fun q => absurd q (nI_ge (by omega) (by omega))) (fun _ => ?_)
      exact inner (N - x) 0 (by omega) S 0 (by rw [hS]; rfl) rfl
  refine hK [(4, [0, 1, 2])] 40 0 _ _ _ ?_
  exact outer N 0 (by omega) 0 0 rfl rfl
def f2 (N : Nat) (mk : Nat → Nat → Nat) (x y : Nat) : Nat := c1 (tFull mk x y 0) + (if x + y + 1 < N then c1 (tFull mk x y 1) else 0)
def qAll (N : Nat) (mk : Nat → Nat → Nat) : Nat := sm (fun x => sm (fun y => f2 N mk x y) (N - x)) N
theorem c_countFull (l : Launch) (N : Nat) (mk : Nat → Nat → Nat) (w : Option wEnd) (h : xH) (hH : TH N mk w h) : Ev l zX2_countFull [.inr (6, 0)] h (fun r h' => r = some (vI (nI (qAll N mk))) ∧ h' = h) := by
  obtain ⟨ma, sz, wk, ax, ay, ak, ob, rfl, hB, hW⟩ := hH
  obtain ⟨hN1, h20, hok, rfl, hma⟩ := id hB
  refine ev_all okX2_countFull (by decide +kernel) (Nat.le_of_ble_eq_true rfl) ?_
  intro K hK
  have outer : ∀ (e x : Nat), x + e = N → ∀ S X : Int32, S = nI (sm (fun x => sm (fun y => f2 N mk x y) (N - x)) x) → X = nI x → K 4 [(0, .inr (6, 0)), (1, vI S), (2, vI X)] [] (ntH ma (nI N) wk ax ay ak ob) := by
    intro e
    induction e with
    | zero =>
      intro x hx S X hS hX
      have hx : x = N := hx
      subst hx; subst hX
      refine hK [] 40 4 _ _ _ ?_
      refine And.intro (fun _ => ?_) (fun q => absurd (Int32.le_refl _) q)
      exact And.intro ⟨by rw [hS]; rfl, rfl⟩ rfl
    | succ e ih =>
      intro x hx S X hS hX
      subst hX
      have inner : ∀ (f y : Nat), y + f = N - x → ∀ S' Y : Int32, S' = nI (sm (fun x => sm (fun y => f2 N mk x y) (N - x)) x + sm (fun y => f2 N mk x y) y) → Y = nI y → K 14 [(0, .inr (6, 0)), (1, vI S'), (2, vI (nI x)), (3, vI Y)] [] (ntH ma (nI N) wk ax ay ak ob) := by
        intro f
        induction f with
        | zero =>
          intro y hy S' Y hS' hY
          have hy : y = N - x := hy
          subst hY
          refine hK [(4, [0, 1, 2])] 40 14 _ _ _ ?_
          refine And.intro (fun _ => ?_) (fun q => absurd (by show nI N ≤ nI x + nI y; rw [nI_add]; exact nI_le (by omega) (by omega)) q)
          refine ih (x + 1) (by omega) _ _ ?_ (nI_1 x)
          rw [hS', hy]
          rfl
        | succ f ihf =>
          intro y hy S' Y hS' hY
          subst hY
          have hT : isT N x y 0 := Or.inl ⟨rfl, by omega⟩
          -- behind the upright third
          have at42 : ∀ T : Int32, T = S' + nI (c1 (tFull mk x y 0)) → K 42 [(0, .inr (6, 0)), (1, vI T), (2, vI (nI x)), (3, vI (nI y))] [] (ntH ma (nI N) wk ax ay ak ob) := by
            intro T hTT
            have hfin : ∀ v : Int32, v = nI (if x + y + 1 < N then c1 (tFull mk x y 1) else 0) → K 14 [(0, .inr (6, 0)), (1, vI (T + v)), (2, vI (nI x)), (3, vI (nI y + 1))] [] (ntH ma (nI N) wk ax ay ak ob) := by
              intro v hv
              refine ihf (y + 1) (by omega) _ _ ?_ (nI_1 y)
              rw [hTT, hS', hv, nI_add, nI_add]
              congr 1
              show _ = _ + (sm (fun y => f2 N mk x y) y + f2 N mk x y)
              unfold f2
              omega
            have hsub : nI N - 1 = nI (N - 1) := pk_sub (b := 1) (by omega)
            refine hK [(14, [0, 1, 2, 3])] 40 42 _ _ _ ?_
            refine And.intro (fun q => ?_) (fun q => ?_)
            · have q : nI N - 1 ≤ nI x + nI y := q
              rw [hsub, nI_add, nI_leI (by omega) (by omega)] at q
              refine hfin 0 ?_
              rw [if_neg (by omega)]
              rfl
            · have q : ¬ nI N - 1 ≤ nI x + nI y := q
              rw [hsub, nI_add, nI_leI (by omega) (by omega)] at q
              refine ⟨[6, 7], _, c_isFull l N mk ma (nI N) wk ax ay ak ob hB x y 1 (Or.inr ⟨rfl, by omega⟩) _ _ _ rfl rfl rfl, fun r hc' hP _ => ?_⟩
              obtain ⟨rfl, rfl⟩ := hP
              refine And.intro (fun z => ?_) (fun z => ?_)
              · refine hfin 0 ?_
                rw [if_pos (by omega), b2i0 z]
                rfl
              · refine hfin 1 ?_
                rw [if_pos (by omega), b2i1 z]
                rfl
          refine hK [(42, [0, 1, 2, 3])] 40 14 _ _ _ ?_
          refine And.intro (fun q => absurd q (by show ¬ nI N ≤ nI x + nI y; rw [nI_add]; exact nI_ge (by omega) (by omega))) (fun _ => ?_)
          refine ⟨[6, 7], _, c_isFull l N mk ma (nI N) wk ax ay ak ob hB x y 0 hT _ _ _ rfl rfl rfl, fun r hc' hP _ => ?_⟩
          obtain ⟨rfl, rfl⟩ := hP
          refine And.intro (fun z => at42 _ ?_) (fun z => at42 _ ?_)
          · show S' + 0 = _
            rw [b2i0 z]
            rfl
          · show S' + 1 = _
            rw [b2i1 z]
            rfl
      refine hK [(14, [0, 1, 2, 3])] 40 4 _ _ _ ?_
      refine And.intro (fun q => absurd q (nI_ge (by omega) (by omega))) (fun _ => ?_)
      exact inner (N - x) 0 (by omega) S 0 (by rw [hS]; rfl) rfl
  refine hK [(4, [0, 1, 2])] 40 0 _ _ _ ?_
  exact outer N 0 (by omega) 0 0 rfl rfl
