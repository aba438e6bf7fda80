/-! ===== Net: first marks, corners, doors ===== -/
def mk0 : Nat → Nat → Nat := fun x y => if 0 < x then 0 else if 0 < y then 1 else 2
theorem mk0_ok {N : Nat} (h : 1 ≤ N) : mkOk N mk0 := by
  intro x y hxy
  unfold mk0
  by_cases h1 : 0 < x
  · rw [if_pos h1]
    exact ⟨by omega, fun _ => h1, fun q => by omega, fun q => by omega⟩
  · rw [if_neg h1]
    by_cases h2 : 0 < y
    · rw [if_pos h2]
      exact ⟨by omega, fun q => by omega, fun _ => h2, fun q => by omega⟩
    · rw [if_neg h2]
      exact ⟨by omega, fun q => by omega, fun q => by omega, fun _ => by omega⟩
theorem c_markAs (l : Launch) (N : Nat) (hN1 : 1 ≤ N) (hN : N ≤ 20) (ma : Nat → Int32) (wk ax ay ak ob : Int32) : Ev l zX2_markAsAtFirst [.inr (6, 0)] (ntH ma (nI N) wk ax ay ak ob) (fun r h' => r = none ∧ ∃ ma' : Nat → Int32, (∀ x y, x + y ≤ N → ma' (21 * x + y) = nI (mk0 x y)) ∧ h' = ntH ma' (nI N) wk ax ay ak ob) := by
  refine ev_all okX2_markAsAtFirst (by decide +kernel) (Nat.le_of_ble_eq_true rfl) ?_
  intro K hK
  have outer : ∀ (d x : Nat), x + d = N + 1 → ∀ (ma : Nat → Int32), (∀ a b, a < x → a + b ≤ N → ma (21 * a + b) = nI (mk0 a b)) → ∀ X : Int32, X = nI x → K 2 [(0, .inr (6, 0)), (1, vI X)] [] (ntH ma (nI N) wk ax ay ak ob) := by
    intro d
    induction d with
    | zero =>
      intro x hx ma hma X hX
      subst hX
      refine hK [] 60 2 _ _ _ ?_
      refine And.intro (fun _ => ?_) (fun z => absurd (nI_lt (by omega) (by omega)) z)
      exact And.intro ⟨rfl, ma, fun a b hab => hma a b (by omega) hab, rfl⟩ rfl
    | succ d ih =>
      intro x hx ma hma X hX
      subst hX
      have inner : ∀ (e y : Nat), x + y + e = N + 1 → ∀ (ma : Nat → Int32), (∀ a b, a < x ∨ (a = x ∧ b < y) → a + b ≤ N → ma (21 * a + b) = nI (mk0 a b)) → ∀ Y : Int32, Y = nI y → K 12 [(0, .inr (6, 0)), (1, vI (nI x)), (2, vI Y)] [] (ntH ma (nI N) wk ax ay ak ob) := by
        intro e
        induction e with
        | zero =>
          intro y hy ma hma Y hY
          subst hY
          refine hK [(2, [0, 1])] 60 12 _ _ _ ?_
          refine And.intro (fun _ => ?_) (fun z => absurd (by show nI N < nI x + nI y; rw [nI_add]; exact nI_lt (by omega) (by omega)) z)
          exact ih (x + 1) (by omega) ma (fun a b ha hab => hma a b (by omega) hab) _ (nI_1 x)
        | succ e ihe =>
          intro y hy ma hma Y hY
          subst hY
          have hxy : x + y ≤ N := by omega
          obtain ⟨i1, i2, i3⟩ := idx21 hxy hN
          have step : ∀ v : Int32, v = nI (mk0 x y) → K 12 [(0, .inr (6, 0)), (1, vI (nI x)), (2, vI (nI y + 1))] [] (ntH (upd ma (nI x * 21 + nI y).toNatClampNeg v) (nI N) wk ax ay ak ob) := by
            intro v hv
            refine ihe (y + 1) (by omega) _ (fun a b hab2 hab => ?_) _ (nI_1 y)
            rw [i1, i2]
            by_cases eab : a = x ∧ b = y
            · rw [eab.1, eab.2, pk_us]; exact hv
            · rw [pk_un (fun w => eab (idx21_inj (by omega) (by omega) w))]
              exact hma a b (by omega) hab
          refine hK [(12, [0, 1, 2])] 60 12 _ _ _ ?_
          refine And.intro (fun z => absurd z (by show ¬ nI N < nI x + nI y; rw [nI_add]; exact nI_nlt (by omega) (by omega))) (fun _ => ?_)
          have hin : vp_in (nI x * 21 + nI y) 441 := by rw [i1]; exact i3
          refine And.intro (fun hx0 => ?_) (fun hx0 => ?_)
          · have hx0 : nI x ≤ nI 0 := hx0
            rw [nI_leI (by omega) (by omega)] at hx0
            refine And.intro (fun hy0 => ?_) (fun hy0 => ?_)
            · have hy0 : nI y ≤ nI 0 := hy0
              rw [nI_leI (by omega) (by omega)] at hy0
              refine And.intro hin (step 2 ?_)
              unfold mk0
              rw [if_neg (by omega), if_neg (by omega)]
              rfl
            · have hy0 : ¬ nI y ≤ nI 0 := hy0
              rw [nI_leI (by omega) (by omega)] at hy0
              refine And.intro hin (step 1 ?_)
              unfold mk0
              rw [if_neg (by omega), if_pos (by omega)]
              rfl
          · have hx0 : ¬ nI x ≤ nI 0 := hx0
            rw [nI_leI (by omega) (by omega)] at hx0
            refine And.intro hin (step 0 ?_)
            unfold mk0
            rw [if_pos (by omega)]
            rfl
      refine hK [(12, [0, 1, 2])] 60 2 _ _ _ ?_
      refine And.intro (fun z => absurd z (nI_nlt (by omega) (by omega))) (fun _ => ?_)
      exact inner (N + 1 - x) 0 (by omega) ma (fun a b hab2 hab => hma a b (by omega) hab) 0 rfl
  refine hK [(2, [0, 1])] 60 0 _ _ _ ?_
  exact outer (N + 1) 0 (by omega) ma (fun a b ha => absurd ha (Nat.not_lt_zero a)) 0 rfl
def okNet (k : Int32) : Bool := decide (1 ≤ k.toInt ∧ k.toInt ≤ 20)
def nNet (N : Nat) (k : Int32) : Nat := if okNet k = true then k.toInt.toNat else N
def sNet (mk : Nat → Nat → Nat) (k : Int32) : Nat → Nat → Nat := if okNet k = true then mk0 else mk
def wNet (w : Option wEnd) (k : Int32) : Option wEnd := if okNet k = true then none else w
theorem c_resize (l : Launch) (N : Nat) (mk : Nat → Nat → Nat) (w : Option wEnd) (h : xH) (hH : TH N mk w h) (k : Int32) : Ev l zX2_resize [.inr (6, 0), vI k] h (fun r h' => r = some (vI (b2i (okNet k))) ∧ TH (nNet N k) (sNet mk k) (wNet w k) h') := by
  have hbad : okNet k = false → TH (nNet N k) (sNet mk k) (wNet w k) h := fun q => by
    have e1 : nNet N k = N := by unfold nNet; rw [q]; rfl
    have e2 : sNet mk k = mk := by unfold sNet; rw [q]; rfl
    have e3 : wNet w k = w := by unfold wNet; rw [q]; rfl
    rw [e1, e2, e3]
    exact hH
  obtain ⟨ma, sz, wk, ax, ay, ak, ob, rfl, hB, hW⟩ := id hH
  refine ev_run okX2_resize (by decide +kernel) (Nat.le_of_ble_eq_true rfl) 100 ?_
  refine And.intro (fun h1 => ?_) (fun h1 => And.intro (fun h2 => ?_) (fun h2 => ?_))
  · have h1 : k.toInt < 1 := lt_T.mp h1
    have e : okNet k = false := decide_eq_false (by omega)
    exact And.intro (Or.inl rfl) (And.intro ⟨by rw [e]; rfl, hbad e⟩ rfl)
  · have h1 : ¬ k.toInt < 1 := fun q => h1 (lt_T.mpr q)
    have h2 : k.toInt ≤ 20 := le_T.mp h2
    have e : okNet k = true := decide_eq_true (by omega)
    obtain ⟨j, hj, rfl, hjt⟩ := nI_arg (x := k) (by omega)
    refine And.intro (Or.inl rfl) ?_
    refine ⟨[6, 7], _, c_markAs l j (by omega) (by omega) ma 0 ax ay ak ob, fun r hc' hP _ => ?_⟩
    obtain ⟨rfl, ma', hma', rfl⟩ := hP
    refine And.intro (Or.inr rfl) (And.intro ⟨by rw [e]; rfl, ?_⟩ rfl)
    have e1 : nNet N (nI j) = j := by unfold nNet; rw [e, if_pos rfl, hjt]; rfl
    have e2 : sNet mk (nI j) = mk0 := by unfold sNet; rw [e]; rfl
    have e3 : wNet w (nI j) = none := by unfold wNet; rw [e]; rfl
    rw [e1, e2, e3]
    exact ⟨ma', nI j, 0, ax, ay, ak, ob, rfl, ⟨by omega, by omega, mk0_ok (by omega), rfl, hma'⟩, rfl⟩
  · have h2 : ¬ k.toInt ≤ 20 := fun q => h2 (le_T.mpr q)
    have e : okNet k = false := decide_eq_false (by omega)
    exact And.intro (Or.inl rfl) (And.intro ⟨by rw [e]; rfl, hbad e⟩ rfl)
/-- the marks of a third's corners -/
def cm (mk : Nat → Nat → Nat) (a b k c : Nat) : Nat := match k, c with
  | 0, 0 => mk (a + 1) b
  | 0, 1 => mk a (b + 1)
  | 0, _ => mk a b
  | _, 0 => mk a (b + 1)
  | _, 1 => mk (a + 1) b
  | _, _ => mk (a + 1) (b + 1)
/-- a third of the net -/
def isT (N a b k : Nat) : Prop := (k = 0 ∧ a + b + 1 ≤ N) ∨ (k = 1 ∧ a + b + 2 ≤ N)
theorem c_corner (l : Launch) (N : Nat) (mk : Nat → Nat → Nat) (ma : Nat → Int32) (sz wk ax ay ak ob : Int32) (hB : TB N mk ma sz) (a b k c : Nat) (hT : isT N a b k) (hc : c < 3) (x y z v : Int32) (hx : x = nI a) (hy : y = nI b) (hz : z = nI k) (hv : v = nI c) : Ev l zX2_cornerMark [.inr (6, 0), vI x, vI y, vI z, vI v] (ntH ma sz wk ax ay ak ob) (fun r h' => r = some (vI (nI (cm mk a b k c))) ∧ h' = ntH ma sz wk ax ay ak ob) := by
  subst hx; subst hy; subst hz; subst hv
  have h20 := hB.2.1
  have mark : ∀ (p q : Nat) (X Y : Int32), p + q ≤ N → X = nI p → Y = nI q → Ev l zX2_markAt [.inr (6, 0), vI X, vI Y] (ntH ma sz wk ax ay ak ob) (fun r h' => r = some (vI (nI (mk p q))) ∧ h' = ntH ma sz wk ax ay ak ob) := by
    intro p q X Y hpq hX hY
    subst hX; subst hY
    have := c_markAt l N mk ma sz wk ax ay ak ob (nI p) (nI q) hB
    rw [qMark_nI hpq h20] at this
    exact this
  have z0 : ∀ p : Nat, nI p + 0 = nI p := fun p => Int32.add_zero _
  have s0 : ∀ p : Nat, nI p + 1 - 0 = nI (p + 1) := fun p => by rw [Int32.sub_zero, nI_1]
  have s1 : ∀ p : Nat, nI p + 1 - 1 = nI p := fun p => Int32.add_sub_cancel _ _
  refine ev_run okX2_cornerMark (by decide +kernel) (Nat.le_of_ble_eq_true rfl) 100 ?_
  rcases hT with ⟨rfl, hab⟩ | ⟨rfl, hab⟩ <;> rcases (by omega : c = 0 ∨ c = 1 ∨ c = 2) with rfl | rfl | rfl
  · refine And.intro (fun q => absurd rfl q) (fun _ => And.intro (fun _ => And.intro (fun q => absurd rfl q) (fun _ => ?_)) (fun q => absurd q (by decide)))
    refine ⟨[6, 7], _, mark (a + 1) b _ _ (by omega) (nI_1 a) (z0 b), fun r hc' hP _ => ?_⟩
    obtain ⟨rfl, rfl⟩ := hP
    exact And.intro ⟨rfl, rfl⟩ rfl
  · refine And.intro (fun _ => And.intro (fun q => absurd rfl q) (fun _ => And.intro (fun q => absurd rfl q) (fun _ => ?_))) (fun q => absurd q (by decide))
    refine ⟨[6, 7], _, mark a (b + 1) _ _ (by omega) (z0 a) (nI_1 b), fun r hc' hP _ => ?_⟩
    obtain ⟨rfl, rfl⟩ := hP
    exact And.intro ⟨rfl, rfl⟩ rfl
  · refine And.intro (fun _ => And.intro (fun _ => And.intro (fun q => absurd rfl q) (fun _ => ?_)) (fun q => absurd q (by decide))) (fun q => absurd q (by decide))
    refine ⟨[6, 7], _, mark a b _ _ (by omega) (z0 a) (z0 b), fun r hc' hP _ => ?_⟩
    obtain ⟨rfl, rfl⟩ := hP
    exact And.intro ⟨rfl, rfl⟩ rfl
  · refine And.intro (fun q => absurd rfl q) (fun _ => And.intro (fun _ => And.intro (fun _ => ?_) (fun q => absurd q (by decide))) (fun q => absurd q (by decide)))
    refine ⟨[6, 7], _, mark a (b + 1) _ _ (by omega) (s1 a) (s0 b), fun r hc' hP _ => ?_⟩
    obtain ⟨rfl, rfl⟩ := hP
    exact And.intro ⟨rfl, rfl⟩ rfl
  · refine And.intro (fun _ => And.intro (fun q => absurd rfl q) (fun _ => And.intro (fun _ => ?_) (fun q => absurd q (by decide)))) (fun q => absurd q (by decide))
    refine ⟨[6, 7], _, mark (a + 1) b _ _ (by omega) (s0 a) (s1 b), fun r hc' hP _ => ?_⟩
    obtain ⟨rfl, rfl⟩ := hP
    exact And.intro ⟨rfl, rfl⟩ rfl
  · refine And.intro (fun _ => And.intro (fun _ => And.intro (fun _ => ?_) (fun q => absurd q (by decide))) (fun q => absurd q (by decide))) (fun q => absurd q (by decide))
    refine ⟨[6, 7], _, mark (a + 1) (b + 1) _ _ (by omega) (s0 a) (s0 b), fun r hc' hP _ => ?_⟩
    obtain ⟨rfl, rfl⟩ := hP
    exact And.intro ⟨rfl, rfl⟩ rfl
theorem cm_le {N : Nat} {mk : Nat → Nat → Nat} (h : mkOk N mk) {a b k : Nat} (hT : isT N a b k) (c : Nat) : cm mk a b k c ≤ 2 := by
  rcases hT with ⟨rfl, hab⟩ | ⟨rfl, hab⟩
  · match c with
    | 0 => exact (h (a + 1) b (by omega)).1
    | 1 => exact (h a (b + 1) (by omega)).1
    | _ + 2 => exact (h a b (by omega)).1
  · match c with
    | 0 => exact (h a (b + 1) (by omega)).1
    | 1 => exact (h (a + 1) b (by omega)).1
    | _ + 2 => exact (h (a + 1) (b + 1) (by omega)).1
def tFull (mk : Nat → Nat → Nat) (a b k : Nat) : Bool := decide (cm mk a b k 0 ≠ cm mk a b k 1 ∧ cm mk a b k 1 ≠ cm mk a b k 2 ∧ cm mk a b k 0 ≠ cm mk a b k 2)
theorem seven : ∀ p : Nat, p < 3 → ∀ q : Nat, q < 3 → ∀ r : Nat, r < 3 → ((((0 : Int32) ||| ((1 : Int32) <<< (nI p &&& 31))) ||| ((1 : Int32) <<< (nI q &&& 31))) ||| ((1 : Int32) <<< (nI r &&& 31)) = 7 ↔ (p ≠ q ∧ q ≠ r ∧ p ≠ r)) := by decide +kernel
theorem c_isFull (l : Launch) (N : Nat) (mk : Nat → Nat → Nat) (ma : Nat → Int32) (sz wk ax ay ak ob : Int32) (hB : TB N mk ma sz) (a b k : Nat) (hT : isT N a b k) (x y z : Int32) (hx : x = nI a) (hy : y = nI b) (hz : z = nI k) : Ev l zX2_isFull [.inr (6, 0), vI x, vI y, vI z] (ntH ma sz wk ax ay ak ob) (fun r h' => r = some (vI (b2i (tFull mk a b k))) ∧ h' = ntH ma sz wk ax ay ak ob) := by
  subst hx; subst hy; subst hz
  have hok := hB.2.2.1
  have l0 := cm_le hok hT 0
  have l1 := cm_le hok hT 1
  have l2 := cm_le hok hT 2
  have hs := seven (cm mk a b k 0) (by omega) (cm mk a b k 1) (by omega) (cm mk a b k 2) (by omega)
  refine ev_all okX2_isFull (by decide +kernel) (Nat.le_of_ble_eq_true rfl) ?_
  intro K hK
  have at3 : ∀ S y : Int32, (S = 7 ↔ tFull mk a b k = true) → y = nI 3 → K 6 [(0, .inr (6, 0)), (1, vI (nI a)), (2, vI (nI b)), (3, vI (nI k)), (4, vI S), (5, vI y)] [] (ntH ma sz wk ax ay ak ob) := by
    intro S y hS hy
    subst hy
    refine hK [] 40 6 _ _ _ ?_
    refine And.intro (fun _ => ?_) (fun q => absurd (Int32.le_refl _) q)
    refine And.intro (fun q => ?_) (fun q => ?_)
    · have e : tFull mk a b k = false := by
        cases hb : tFull mk a b k with
        | false => rfl
        | true => exact absurd (hS.mpr hb) q
      exact And.intro (Or.inl rfl) (And.intro ⟨by rw [e]; rfl, rfl⟩ rfl)
    · have e : tFull mk a b k = true := hS.mp q
      exact And.intro (Or.inr rfl) (And.intro ⟨by rw [e]; rfl, rfl⟩ rfl)
  have step : ∀ (c : Nat), c < 3 → ∀ S y : Int32, y = nI c → (∀ S' y' : Int32, S' = S ||| ((1 : Int32) <<< (nI (cm mk a b k c) &&& 31)) → y' = nI (c + 1) → K 6 [(0, .inr (6, 0)), (1, vI (nI a)), (2, vI (nI b)), (3, vI (nI k)), (4, vI S'), (5, vI y')] [] (ntH ma sz wk ax ay ak ob)) → K 6 [(0, .inr (6, 0)), (1, vI (nI a)), (2, vI (nI b)), (3, vI (nI k)), (4, vI S), (5, vI y)] [] (ntH ma sz wk ax ay ak ob) := by
    intro c hc S y hy next
    subst hy
    refine hK [(6, [0, 1, 2, 3, 4, 5])] 40 6 _ _ _ ?_
    refine And.intro (fun q => absurd (show nI 3 ≤ nI c from q) (nI_ge (by omega) (by omega))) (fun _ => ?_)
    refine ⟨[6, 7], _, c_corner l N mk ma sz wk ax ay ak ob hB a b k c hT hc _ _ _ _ rfl rfl rfl rfl, fun r hc' hP _ => ?_⟩
    obtain ⟨rfl, rfl⟩ := hP
    exact next _ _ rfl (nI_1 c)
  refine hK [(6, [0, 1, 2, 3, 4, 5])] 40 0 _ _ _ ?_
  refine step 0 (by omega) 0 0 rfl (fun S1 y1 hS1 hy1 => ?_)
  refine step 1 (by omega) S1 y1 hy1 (fun S2 y2 hS2 hy2 => ?_)
  refine step 2 (by omega) S2 y2 hy2 (fun S3 y3 hS3 hy3 => ?_)
  refine at3 S3 y3 ?_ hy3
  rw [hS3, hS2, hS1]
  unfold tFull
  rw [decide_eq_true_eq]
  exact hs
/-- a door: marks 0 and 1 -/
def dr (p q : Nat) : Bool := decide ((p = 0 ∧ q = 1) ∨ (p = 1 ∧ q = 0))
theorem rem3 : ∀ s : Nat, s < 3 → nI s + 1 - (nI s + 1) / 3 * 3 = nI ((s + 1) % 3) ∧ nI s + 2 - (nI s + 2) / 3 * 3 = nI ((s + 2) % 3) := by decide +kernel
def tDoor (mk : Nat → Nat → Nat) (a b k s : Nat) : Bool := dr (cm mk a b k ((s + 1) % 3)) (cm mk a b k ((s + 2) % 3))
theorem c_isDoor (l : Launch) (N : Nat) (mk : Nat → Nat → Nat) (ma : Nat → Int32) (sz wk ax ay ak ob : Int32) (hB : TB N mk ma sz) (a b k s : Nat) (hT : isT N a b k) (hs : s < 3) (x y z v : Int32) (hx : x = nI a) (hy : y = nI b) (hz : z = nI k) (hv : v = nI s) : Ev l zX2_isDoor [.inr (6, 0), vI x, vI y, vI z, vI v] (ntH ma sz wk ax ay ak ob) (fun r h' => r = some (vI (b2i (tDoor mk a b k s))) ∧ h' = ntH ma sz wk ax ay ak ob) := by
  subst hx; subst hy; subst hz; subst hv
  have hok := hB.2.2.1
  obtain ⟨r1, r2⟩ := rem3 s hs
  have l1 := cm_le hok hT ((s + 1) % 3)
  have l2 := cm_le hok hT ((s + 2) % 3)
  refine ev_run okX2_isDoor (by decide +kernel) (Nat.le_of_ble_eq_true rfl) 100 ?_
  refine And.intro (by decide) ?_
  refine ⟨[6, 7], _, c_corner l N mk ma sz wk ax ay ak ob hB a b k ((s + 1) % 3) hT (Nat.mod_lt _ (by omega)) _ _ _ _ rfl rfl rfl r1, fun r hc' hP _ => ?_⟩
  obtain ⟨rfl, rfl⟩ := hP
  refine And.intro (by decide) ?_
  refine ⟨[6, 7], _, c_corner l N mk ma sz wk ax ay ak ob hB a b k ((s + 2) % 3) hT (Nat.mod_lt _ (by omega)) _ _ _ _ rfl rfl rfl r2, fun r hc' hP _ => ?_⟩
  obtain ⟨rfl, rfl⟩ := hP
  unfold tDoor dr
  generalize cm mk a b k ((s + 1) % 3) = p at l1 ⊢
  generalize cm mk a b k ((s + 2) % 3) = q at l2 ⊢
  have ez : ∀ {m : Nat}, m ≤ 2 → (nI m = 0 ↔ m = 0) := fun {m} hm => nI_eq (a := m) (b := 0) (by omega) (by omega)
  have eo : ∀ {m : Nat}, m ≤ 2 → (nI m = 1 ↔ m = 1) := fun {m} hm => nI_eq (a := m) (b := 1) (by omega) (by omega)
  have yes : ((p = 0 ∧ q = 1) ∨ (p = 1 ∧ q = 0)) → ((1 : Int32) = 0 ∨ (1 : Int32) = 1) ∧ ((some (vI 1) = some (vI (b2i (decide ((p = 0 ∧ q = 1) ∨ (p = 1 ∧ q = 0))))) ∧ ntH ma sz wk ax ay ak ob = ntH ma sz wk ax ay ak ob) ∧ x_shp (ntH ma sz wk ax ay ak ob) = x_shp (ntH ma sz wk ax ay ak ob)) := fun w => ⟨Or.inr rfl, ⟨by rw [decide_eq_true w]; rfl, rfl⟩, rfl⟩
  have no : ¬ ((p = 0 ∧ q = 1) ∨ (p = 1 ∧ q = 0)) → ((0 : Int32) = 0 ∨ (0 : Int32) = 1) ∧ ((some (vI 0) = some (vI (b2i (decide ((p = 0 ∧ q = 1) ∨ (p = 1 ∧ q = 0))))) ∧ ntH ma sz wk ax ay ak ob = ntH ma sz wk ax ay ak ob) ∧ x_shp (ntH ma sz wk ax ay ak ob) = x_shp (ntH ma sz wk ax ay ak ob)) := fun w => ⟨Or.inl rfl, ⟨by rw [decide_eq_false w]; rfl, rfl⟩, rfl⟩
  refine And.intro (fun h1 => ?_) (fun h1 => And.intro (fun h2 => ?_) (fun h2 => ?_))
  · have h1 : ¬ p = 0 := fun w => h1 ((ez l1).mpr w)
    refine And.intro (fun h3 => ?_) (fun h3 => And.intro (fun h4 => ?_) (fun h4 => ?_))
    · have h3 : ¬ p = 1 := fun w => h3 ((eo l1).mpr w)
      exact no (by omega)
    · have h4 : ¬ q = 0 := fun w => h4 ((ez l2).mpr w)
      exact no (by omega)
    · exact yes (Or.inr ⟨(eo l1).mp h3, (ez l2).mp h4⟩)
  · exact yes (Or.inl ⟨(ez l1).mp h1, (eo l2).mp h2⟩)
  · have h1 := (ez l1).mp h1
    have h2 : ¬ q = 1 := fun w => h2 ((eo l2).mpr w)
    refine And.intro (fun h3 => ?_) (fun h3 => ?_)
    · exact no (by omega)
    · have h3 := (eo l1).mp h3
      omega
def outD (N : Nat) (mk : Nat → Nat → Nat) (d : Int32) : Bool := decide (0 ≤ d.toInt ∧ d.toInt < (N : Int)) && tDoor mk d.toInt.toNat (N - 1 - d.toInt.toNat) 0 2
theorem c_isOuter (l : Launch) (N : Nat) (mk : Nat → Nat → Nat) (ma : Nat → Int32) (sz wk ax ay ak ob : Int32) (hB : TB N mk ma sz) (d : Int32) : Ev l zX2_isOuterDoor [.inr (6, 0), vI d] (ntH ma sz wk ax ay ak ob) (fun r h' => r = some (vI (b2i (outD N mk d))) ∧ h' = ntH ma sz wk ax ay ak ob) := by
  obtain ⟨h1, h20, hok, rfl, hma⟩ := id hB
  have hT : (nI N).toInt = (N : Int) := nI_toInt (by omega)
  refine ev_run okX2_isOuterDoor (by decide +kernel) (Nat.le_of_ble_eq_true rfl) 100 ?_
  refine And.intro (fun q => ?_) (fun q => And.intro (fun q2 => ?_) (fun q2 => ?_))
  · have q : d.toInt < 0 := lt_T.mp q
    have e : outD N mk d = false := by unfold outD; rw [decide_eq_false (by omega)]; rfl
    exact And.intro (Or.inl rfl) (And.intro ⟨by rw [e]; rfl, rfl⟩ rfl)
  · have q2 := le_T.mp q2
    rw [hT] at q2
    have e : outD N mk d = false := by unfold outD; rw [decide_eq_false (by omega)]; rfl
    exact And.intro (Or.inl rfl) (And.intro ⟨by rw [e]; rfl, rfl⟩ rfl)
  · have q : ¬ d.toInt < 0 := fun w => q (lt_T.mpr w)
    have q2 : ¬ (nI N).toInt ≤ d.toInt := fun w => q2 (le_T.mpr w)
    rw [hT] at q2
    obtain ⟨j, hj, rfl, hjt⟩ := nI_arg (x := d) (by omega)
    have e : outD N mk (nI j) = tDoor mk j (N - 1 - j) 0 2 := by
      unfold outD
      rw [decide_eq_true (by omega), hjt]
      rfl
    rw [e]
    refine ⟨[6, 7], _, c_isDoor l N mk ma (nI N) wk ax ay ak ob hB j (N - 1 - j) 0 2 (Or.inl ⟨rfl, by omega⟩) (by omega) _ _ _ _ rfl (by
      show nI N - 1 - nI j = _
      rw [show (1 : Int32) = nI 1 from rfl, pk_sub (by omega), pk_sub (by omega)]) rfl rfl, fun r hc' hP _ => ?_⟩
    obtain ⟨rfl, rfl⟩ := hP
    refine And.intro (fun w => ?_) (fun w => ?_)
    · exact And.intro (Or.inl rfl) (And.intro ⟨by rw [b2i0 w]; rfl, rfl⟩ rfl)
    · exact And.intro (Or.inr rfl) (And.intro ⟨by rw [b2i1 w]; rfl, rfl⟩ rfl)
