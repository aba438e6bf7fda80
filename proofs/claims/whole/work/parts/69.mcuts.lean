/-! ===== the reference: cuts, and what is asked of the line ===== -/
theorem bit_T : ∀ d : Nat, d < 32 → ∀ i : Nat, i < 5 → (nI d >>> (nI i &&& 31)) &&& 1 = b2i (d.testBit i) := by decide +kernel
/-- the cells behind k cuts -/
def MC (k : Nat) (s : lSt) (wh : Nat → Int32) (up lo : Nat → Int64) : Prop := ∀ j, j < k → wh j = nI (s.2.2.1 j) ∧ up j = kL (rdN (s.1 (j + 1)) s.2.1) ∧ lo j = kL (rdD (s.1 (j + 1)) s.2.1)
def MLQ (n L : Nat) (S : Nat → Nat → Nat) (wh : Nat → Int32) (up lo : Nat → Int64) : Prop := ∀ k, k < n → wh k = nI (hE n L S k) ∧ up k = kL (rdN (eE n L S (k + 1)) (uE n L S)) ∧ lo k = kL (rdD (eE n L S (k + 1)) (uE n L S))
theorem b2i_1 {b : Bool} : b2i b = 1 ↔ b = true := by cases b <;> decide
theorem m_cuts (l : Launch) (n L : Nat) (S : Nat → Nat → Nat) (th : Int32) (nk nt rm : Nat → Int32) (ln : Int32) (lg : Nat → Int64) (sa wh : Nat → Int32) (up lo : Nat → Int64) (hB : MLB n L S rm ln sa) : Ev l zX5_cuts [.inr (40, 0)] (mlH th nk nt rm ln lg sa wh up lo) (fun r h' => r = none ∧ ∃ (lg' : Nat → Int64) (wh' : Nat → Int32) (up' lo' : Nat → Int64), MLQ n L S wh' up' lo' ∧ h' = mlH th nk nt rm ln lg' sa wh' up' lo') := by
  obtain ⟨b1, b2, b3, b4, b5, rfl, b7⟩ := id hB
  have hS : ∀ p j, p < n → j < L → S p j ≤ 30 := fun p j hp hj => (b7 p j hp hj).1
  have hn1' : rm 0 - 1 = nI (n - 1) := by rw [b5]; exact pk_sub (b := 1) b1
  have cn1 : (rm 0 - 1).toNatClampNeg = n - 1 := by rw [hn1']; exact nI_clamp (by omega)
  have vn1 : vp_in (rm 0 - 1) 5 := by rw [hn1']; exact vp_in_nI (by omega) (by omega)
  refine ev_all okX5_cuts (by decide +kernel) (Nat.le_of_ble_eq_true rfl) ?_
  intro K hK
  -- the last part
  have at162 : ∀ (s : lSt), s = lSq n L S (n - 1) → s.2.2.2 < 32 → cnB s.2.2.2 n < n → 1 ≤ s.2.1 → ∀ (lg up lo : Nat → Int64), ∀ (e i : Nat), i + e = n → ∀ (wh : Nat → Int32), MC (n - 1) s wh up lo → ((∃ q, q < i ∧ s.2.2.2.testBit q = false) → wh (n - 1) = nI (lastU s.2.2.2 i)) → ∀ (I D : Int32), I = nI i → D = nI s.2.2.2 → K 162 [(0, .inr (40, 0)), (5, vI D), (6, vI I)] [] (mlH th nk nt rm (nI L) lg sa wh up lo) := by
    intro s hs hd hc hu lg up lo e
    obtain ⟨i0, hi0, ht0⟩ := cnB_ex s.2.2.2 hd n (by omega) hc
    induction e with
    | zero =>
      intro i hi wh hC h2 I D hI hD
      have hi : i = n := hi
      subst hi; subst hI; subst hD
      refine hK [] 80 162 _ _ _ ?_
      refine And.intro (fun _ => ?_) (fun z => absurd (by show rm 0 ≤ nI i; rw [b5]; exact Int32.le_refl _) z)
      refine And.intro vn1 (And.intro vn1 (And.intro ⟨rfl, lg, wh, vp_updL up (rm 0 - 1).toNatClampNeg (nI L).toInt64, vp_updL lo (rm 0 - 1).toNatClampNeg 1, fun k hk => ?_, rfl⟩ rfl))
      rw [cn1]
      have eu : uE i L S = s.2.1 := by rw [hs]; rfl
      by_cases ek : k = i - 1
      · have hx : eE i L S (k + 1) = L * s.2.1 := by
          unfold eE
          rw [if_pos (by omega), eu]
        have hr := rd_mul L 1 s.2.1 (by omega)
        rw [Nat.one_mul] at hr
        rw [hx, eu, hr.1, hr.2, ek, us_L, us_L, kL_nI (by omega)]
        refine ⟨?_, ?_, ?_⟩
        · unfold hE
          rw [if_pos rfl, ← hs]
          exact h2 ⟨i0, hi0, ht0⟩
        · unfold rdN
          rw [Nat.gcd_one_right, Nat.div_one]
        · unfold rdD
          rw [Nat.gcd_one_right]
          rfl
      · have hx : eE i L S (k + 1) = s.1 (k + 1) := by
          unfold eE
          rw [if_neg (by omega), ← hs]
        have hh : hE i L S k = s.2.2.1 k := by
          unfold hE
          rw [if_neg ek, ← hs]
        rw [un_L ek, un_L ek, hx, hh, eu]
        exact hC k (by omega)
    | succ e ih =>
      intro i hi wh hC h2 I D hI hD
      subst hI; subst hD
      have hin : i < n := by omega
      have hlu : lastU s.2.2.2 (i + 1) = if s.2.2.2.testBit i = true then lastU s.2.2.2 i else i := rfl
      have hbt := bit_T s.2.2.2 hd i (by omega)
      refine hK [(162, [0, 5, 6])] 80 162 _ _ _ ?_
      refine And.intro (fun z => absurd z (by show ¬ rm 0 ≤ nI i; rw [b5]; exact nI_ge (by omega) (by omega))) (fun _ => ?_)
      refine And.intro (fun z => ?_) (fun z => ?_)
      · have z : ¬ (nI s.2.2.2 >>> (nI i &&& 31)) &&& 1 = 0 := z
        rw [hbt] at z
        have z := b2i1 z
        refine ih (i + 1) (by omega) wh hC (fun ⟨q, q1, q2⟩ => ?_) _ _ (nI_1 i) rfl
        rw [hlu, if_pos z]
        refine h2 ⟨q, ?_, q2⟩
        by_cases eq : q = i
        · rw [eq, z] at q2; cases q2
        · omega
      · have z : (nI s.2.2.2 >>> (nI i &&& 31)) &&& 1 = 0 := z
        rw [hbt] at z
        have z := b2i0 z
        refine And.intro vn1 ?_
        refine ih (i + 1) (by omega) _ (fun j hj => ?_) (fun _ => ?_) _ _ (nI_1 i) rfl
        · show upd wh (rm 0 - 1).toNatClampNeg (nI i) j = _ ∧ _
          rw [cn1, pk_un (by omega)]
          exact hC j hj
        · show upd wh (rm 0 - 1).toNatClampNeg (nI i) (n - 1) = _
          rw [cn1, pk_us, hlu, if_neg (by rw [z]; decide)]
  have at10 : ∀ (e k : Nat), k + e = n - 1 → ∀ (lg : Nat → Int64) (wh : Nat → Int32) (up lo : Nat → Int64), MC k (lSq n L S k) wh up lo → ∀ (X Y : Int64) (D J : Int32), X = kL (rdN ((lSq n L S k).1 k) (lSq n L S k).2.1) → Y = kL (rdD ((lSq n L S k).1 k) (lSq n L S k).2.1) → D = nI (lSq n L S k).2.2.2 → J = nI k → K 10 [(0, .inr (40, 0)), (1, vL X), (3, vL Y), (5, vI D), (6, vI J)] [] (mlH th nk nt rm (nI L) lg sa wh up lo) := by
    intro e
    induction e with
    | zero =>
      intro k hk lg wh up lo hC X Y D J hX hY hD hJ
      have hk : k = n - 1 := hk
      subst hk; subst hJ
      have hI := lSq_ok b1 b2 b3 hS (n - 1) (by omega)
      refine hK [(162, [0, 5, 6])] 80 10 _ _ _ ?_
      refine And.intro (fun _ => ?_) (fun z => absurd (by show rm 0 ≤ nI (n - 1) + 1; rw [b5, nI_1]; exact nI_le (by omega) (by omega)) z)
      exact at162 (lSq n L S (n - 1)) rfl hI.2.2.1.1 (by rw [hI.2.2.1.2]; omega) hI.1.1 lg up lo n 0 (by omega) wh hC (fun ⟨q, q1, _⟩ => absurd q1 (Nat.not_lt_zero q)) 0 D rfl hD
    | succ e ih =>
      intro k hk lg wh up lo hC X Y D J hX hY hD hJ
      subst hX; subst hY; subst hD; subst hJ
      have hI := lSq_ok b1 b2 b3 hS k (by omega)
      obtain ⟨b, pl, f, hp, p1, p2, p3, p4, p5, p6, hI'⟩ := LI_step b1 b2 b3 hS (show k + 1 < n by omega) hI
      have hst : lSq n L S (k + 1) = lSt1 k (lSq n L S k) (b, pl, f) := by
        show lStep n L S k (lSq n L S k) = _
        unfold lStep
        rw [hp]
      have ihk := ih (k + 1) (by omega)
      rw [hst] at ihk
      clear ih
      generalize lSq n L S k = s at *
      obtain ⟨⟨u1, u2, u3⟩, ⟨e1, e2, e3⟩, ⟨d1, d2⟩, hh, hv⟩ := id hI
      have hU : s.2.1 ≤ 135000 := Nat.le_trans u3 (pow30 (by omega))
      have ck : (nI k).toNatClampNeg = k := nI_clamp (by omega)
      have hsp : ∀ {i : Nat}, i < n → s.2.2.2.testBit i = false → 1 ≤ fS n L S i (s.1 k) s.2.1 ∧ fS n L S i (s.1 k) s.2.1 ≤ 30 ∧ sS n L S i (s.1 k) s.2.1 ≤ 121500000 ∧ s.2.1 * fS n L S i (s.1 k) s.2.1 ≤ 4050000 ∧ 0 < s.2.1 * fS n L S i (s.1 k) s.2.1 := fun {i} hi hd => by
        obtain ⟨g1, g2, g3, g4⟩ := LI_sp b1 b3 hS (by omega) hI hi hd
        have h1 : s.2.1 * fS n L S i (s.1 k) s.2.1 ≤ 135000 * 30 := Nat.mul_le_mul hU g2
        have h2 := Nat.mul_le_mul b4 h1
        have h3 := Nat.mul_le_mul u1 g1
        exact ⟨g1, g2, by omega, by omega, by omega⟩
      -- behind the choice
      have at33e : ∀ (lg : Nat → Int64), K 113 [(0, .inr (40, 0)), (5, vI (nI s.2.2.2)), (6, vI (nI k)), (7, vI (nI b)), (8, vL (kL (rdN pl (s.2.1 * f)))), (10, vL (kL (rdD pl (s.2.1 * f))))] [] (mlH th nk nt rm (nI L) lg sa wh up lo) := by
        intro lg
        refine hK [(10, [0, 1, 3, 5, 6])] 80 113 _ _ _ ?_
        refine And.intro (vp_in_nI (by omega) (by omega)) (And.intro (vp_in_nI (by omega) (by omega)) (And.intro (vp_in_nI (by omega) (by omega)) ?_))
        have hE : (lSt1 k s (b, pl, f)).1 (k + 1) = pl := by
          show (if k + 1 = k + 1 then pl else s.1 (k + 1) * f) = pl
          rw [if_pos rfl]
        refine ihk lg _ _ _ (fun j hj => ?_) _ _ _ _ (by rw [hE]; rfl) (by rw [hE]; rfl) ?_ (nI_1 k)
        · show upd wh (nI k).toNatClampNeg (nI b) j = nI (if j = k then b else s.2.2.1 j) ∧ vp_updL up (nI k).toNatClampNeg (kL (rdN pl (s.2.1 * f))) j = kL (rdN (if j + 1 = k + 1 then pl else s.1 (j + 1) * f) (s.2.1 * f)) ∧ vp_updL lo (nI k).toNatClampNeg (kL (rdD pl (s.2.1 * f))) j = kL (rdD (if j + 1 = k + 1 then pl else s.1 (j + 1) * f) (s.2.1 * f))
          rw [ck]
          by_cases ej : j = k
          · rw [ej, pk_us, us_L, us_L, if_pos rfl, if_pos rfl]
            exact ⟨rfl, rfl, rfl⟩
          · obtain ⟨m1, m2, m3⟩ := hC j (by omega)
            have hr := rd_mul (s.1 (j + 1)) s.2.1 f (by omega)
            rw [pk_un ej, un_L ej, un_L ej, if_neg ej, if_neg (by omega), hr.1, hr.2]
            exact ⟨m1, m2, m3⟩
        · show nI s.2.2.2 ||| (1 : Int32) <<< (nI b &&& 31) = nI (s.2.2.2 ||| 2 ^ b)
          rw [(shl1 b (by omega)).1, nx_or]
      have at33 : ∀ (e i : Nat), i + e = n → ∀ (lg : Nat → Int64) (F : Int32) (P Q : Int64), (match pkS n L S s.2.2.2 (s.1 k) s.2.1 i with | none => F = -1 ∧ P = 0 ∧ Q = 1 | some v => F = nI v.1 ∧ P = kL (rdN v.2.1 (s.2.1 * v.2.2)) ∧ Q = kL (rdD v.2.1 (s.2.1 * v.2.2))) → ∀ I : Int32, I = nI i → K 33 [(0, .inr (40, 0)), (1, vL (kL (rdN (s.1 k) s.2.1))), (3, vL (kL (rdD (s.1 k) s.2.1))), (5, vI (nI s.2.2.2)), (6, vI (nI k)), (7, vI F), (8, vL P), (10, vL Q), (12, vI I)] [] (mlH th nk nt rm (nI L) lg sa wh up lo) := by
        intro e
        induction e with
        | zero =>
          intro i hi lg F P Q hF I hI2
          have hi : i = n := hi
          subst hi; subst hI2
          rw [hp] at hF
          obtain ⟨f1, f2, f3⟩ := hF
          have f1 : F = nI b := f1
          have f2 : P = kL (rdN pl (s.2.1 * f)) := f2
          have f3 : Q = kL (rdD pl (s.2.1 * f)) := f3
          subst f1; subst f2; subst f3
          refine hK [(113, [0, 5, 6, 7, 8, 10])] 80 33 _ _ _ ?_
          refine And.intro (fun _ => ?_) (fun z => absurd (by show rm 0 ≤ nI i; rw [b5]; exact Int32.le_refl _) z)
          exact at33e lg
        | succ e ihe =>
          intro i hi lg F P Q hF I hI2
          subst hI2
          have hin : i < n := by omega
          have hbt := bit_T s.2.2.2 d1 i (by omega)
          refine hK [(33, [0, 1, 3, 5, 6, 7, 8, 10, 12])] 80 33 _ _ _ ?_
          refine And.intro (fun z => absurd z (by show ¬ rm 0 ≤ nI i; rw [b5]; exact nI_ge (by omega) (by omega))) (fun _ => ?_)
          refine And.intro (fun z => ?_) (fun z => ?_)
          · have z : ¬ (nI s.2.2.2 >>> (nI i &&& 31)) &&& 1 = 1 := z
            rw [hbt, b2i_1] at z
            have z : s.2.2.2.testBit i = false := by simpa using z
            obtain ⟨g1, g2, g3, g4, g5⟩ := hsp hin z
            refine ⟨[40, 53], _, m_says l n L S b1 b2 b3 b4 th nk nt rm lg sa b5 b7 s.2.1 u1 (by omega) u2 k (by omega) i hin (s.1 k) e3 (hv i hin z) _ _ _ rfl rfl rfl, fun r hc' hP _ => ?_⟩
            obtain ⟨rfl, lg', l0, l1, rfl⟩ := hP
            have set : pkS n L S s.2.2.2 (s.1 k) s.2.1 (i + 1) = some (i, sS n L S i (s.1 k) s.2.1, fS n L S i (s.1 k) s.2.1) → K 33 [(0, .inr (40, 0)), (1, vL (kL (rdN (s.1 k) s.2.1))), (3, vL (kL (rdD (s.1 k) s.2.1))), (5, vI (nI s.2.2.2)), (6, vI (nI k)), (7, vI (nI i)), (8, vL (lg' 0)), (10, vL (lg' 1)), (12, vI (nI i + 1))] [] (mlH th nk nt rm (nI L) lg' sa wh up lo) := fun w => by
              refine ihe (i + 1) (by omega) _ _ _ _ ?_ _ (nI_1 i)
              rw [w]
              exact ⟨rfl, l0, l1⟩
            cases hpi : pkS n L S s.2.2.2 (s.1 k) s.2.1 i with
            | none =>
              rw [hpi] at hF
              obtain ⟨f1, f2, f3⟩ := hF
              refine And.intro (fun _ => set (pkS_n z hpi)) (fun w => absurd f1 w)
            | some v =>
              obtain ⟨b', pl', f'⟩ := v
              rw [hpi] at hF
              obtain ⟨f1, f2, f3⟩ := hF
              have f1 : F = nI b' := f1
              have f2 : P = kL (rdN pl' (s.2.1 * f')) := f2
              have f3 : Q = kL (rdD pl' (s.2.1 * f')) := f3
              have hst2 := pkS_s z hpi
              obtain ⟨w1, w2, w3, w4, -⟩ := pkS_some (fun q hq hd => (hsp (show q < n by omega) hd).1) hpi
              obtain ⟨v1, v2, v3, v4, v5⟩ := hsp (show b' < n by omega) w2
              rw [← w3] at v3
              rw [← w4] at v1 v2 v4 v5
              subst f1; subst f2; subst f3
              have r1 := rd_le (a := sS n L S i (s.1 k) s.2.1) g5
              have r2 := rd_le (a := pl') v5
              have hl1 : rdN (sS n L S i (s.1 k) s.2.1) (s.2.1 * fS n L S i (s.1 k) s.2.1) * rdD pl' (s.2.1 * f') ≤ 121500000 * 4050000 := Nat.mul_le_mul (by omega) (by omega)
              have hl2 : rdN pl' (s.2.1 * f') * rdD (sS n L S i (s.1 k) s.2.1) (s.2.1 * fS n L S i (s.1 k) s.2.1) ≤ 121500000 * 4050000 := Nat.mul_le_mul (by omega) (by omega)
              have hless : (rdN (sS n L S i (s.1 k) s.2.1) (s.2.1 * fS n L S i (s.1 k) s.2.1) * rdD pl' (s.2.1 * f') < rdN pl' (s.2.1 * f') * rdD (sS n L S i (s.1 k) s.2.1) (s.2.1 * fS n L S i (s.1 k) s.2.1)) ↔ sS n L S i (s.1 k) s.2.1 * f' < pl' * fS n L S i (s.1 k) s.2.1 := by
                rw [rd_less g5 v5]
                have e5 : sS n L S i (s.1 k) s.2.1 * (s.2.1 * f') = sS n L S i (s.1 k) s.2.1 * f' * s.2.1 := by rw [Nat.mul_comm s.2.1 f', Nat.mul_assoc]
                have e6 : pl' * (s.2.1 * fS n L S i (s.1 k) s.2.1) = pl' * fS n L S i (s.1 k) s.2.1 * s.2.1 := by rw [Nat.mul_comm s.2.1, Nat.mul_assoc]
                rw [e5, e6]
                exact Nat.mul_lt_mul_right (by omega)
              refine And.intro (fun w => ?_) (fun _ => ?_)
              · exfalso
                have z2 := congrArg Int32.toInt w
                rw [nI_toInt (by omega), show (-1 : Int32).toInt = -1 by decide] at z2
                omega
              · refine ⟨[], _, m_isLess l (rdN (sS n L S i (s.1 k) s.2.1) (s.2.1 * fS n L S i (s.1 k) s.2.1)) (rdD (sS n L S i (s.1 k) s.2.1) (s.2.1 * fS n L S i (s.1 k) s.2.1)) (rdN pl' (s.2.1 * f')) (rdD pl' (s.2.1 * f')) (by omega) (by omega) _ _ _ _ l0 l1 rfl rfl, fun r hc' hP _ => ?_⟩
                obtain ⟨rfl, rfl⟩ := hP
                refine And.intro (fun w => ?_) (fun w => ?_)
                · have w := hless.mp (of_decide_eq_true (b2i1 w))
                  rw [if_pos w] at hst2
                  exact set hst2
                · have w := of_decide_eq_false (b2i0 w)
                  rw [if_neg (fun u => w (hless.mpr u))] at hst2
                  refine ihe (i + 1) (by omega) _ _ _ _ ?_ _ (nI_1 i)
                  rw [hst2]
                  exact ⟨rfl, rfl, rfl⟩
          · have z : (nI s.2.2.2 >>> (nI i &&& 31)) &&& 1 = 1 := z
            rw [hbt, b2i_1] at z
            refine ihe (i + 1) (by omega) _ _ _ _ ?_ _ (nI_1 i)
            rw [pkS_t z]
            exact hF
      refine hK [(33, [0, 1, 3, 5, 6, 7, 8, 10, 12])] 80 10 _ _ _ ?_
      refine And.intro (fun z => absurd z (by show ¬ rm 0 ≤ nI k + 1; rw [b5, nI_1]; exact nI_ge (by omega) (by omega))) (fun _ => ?_)
      exact at33 n 0 (by omega) lg (-1) 0 1 ⟨rfl, rfl, rfl⟩ 0 rfl
  refine hK [(10, [0, 1, 3, 5, 6])] 80 0 _ _ _ ?_
  refine at10 (n - 1) 0 (by omega) lg wh up lo (fun j hj => absurd hj (Nat.not_lt_zero j)) 0 1 0 0 ?_ ?_ rfl rfl
  · show 0 = kL (rdN 0 n)
    unfold rdN
    rw [Nat.zero_div]
    rfl
  · show 1 = kL (rdD 0 n)
    unfold rdD
    rw [Nat.gcd_zero_left, Nat.div_self (by omega)]
    rfl
