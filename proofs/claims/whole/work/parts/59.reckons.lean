/-! ===== the reference: reckons, and what is asked of the rooms ===== -/
abbrev mkH (th : Int32) (nk nt rm : Nat → Int32) (ln : Int32) (lg : Nat → Int64) (wa ha tr be : Nat → Int32) (pr : Nat → Int64) : xH := [mdO th nk nt rm ln lg, iA 47 25 wa, iA 49 5 ha, iA 50 5 tr, iA 51 5 be, lA 52 5 pr]
/-- how much is left above the least rents -/
def mu (W : Nat → Nat → Nat) (n : Nat) (bx : Nat → Int) : Nat := sm (fun k => (bx (ow W n k) - dn W n k).toNat) n
theorem sm_lt {f g : Nat → Nat} {i : Nat} : ∀ {n : Nat}, (∀ k, k < n → f k ≤ g k) → i < n → f i < g i → sm f n < sm g n
  | 0, _, hi, _ => absurd hi (Nat.not_lt_zero i)
  | n + 1, h, hi, hlt => by
    show sm f n + f n < sm g n + g n
    have h1 := h n (by omega)
    by_cases e : i = n
    · subst e
      have h2 : sm f i ≤ sm g i := by
        clear hlt hi h1
        have : ∀ m, m ≤ i → sm f m ≤ sm g m := by
          intro m
          induction m with
          | zero => intro _; exact Nat.le_refl _
          | succ m ih =>
            intro hm
            show sm f m + f m ≤ sm g m + g m
            have a := ih (by omega)
            have b := h m (by omega)
            omega
        exact this i (Nat.le_refl i)
      omega
    · have h2 := sm_lt (fun k hk => h k (by omega)) (show i < n by omega) hlt
      omega
theorem mu_lt {W : Nat → Nat → Nat} {n : Nat} (hn1 : 1 ≤ n) (hn : n ≤ 5) {bx : Nat → Int} {i : Nat} (hi : i < n) {v : Int} (h1 : v < bx (ow W n i)) (h2 : dn W n i ≤ v) : mu W n (upZ bx (ow W n i) v) < mu W n bx := by
  refine sm_lt (i := i) (fun k hk => ?_) hi ?_
  · show (upZ bx (ow W n i) v (ow W n k) - dn W n k).toNat ≤ (bx (ow W n k) - dn W n k).toNat
    unfold upZ
    by_cases e : ow W n k = ow W n i
    · rw [if_pos e, e]
      omega
    · rw [if_neg e]
      exact Nat.le_refl _
  · show (upZ bx (ow W n i) v (ow W n i) - dn W n i).toNat < (bx (ow W n i) - dn W n i).toNat
    unfold upZ
    rw [if_pos rfl]
    omega
theorem m_reckons (l : Launch) (n : Nat) (hn1 : 1 ≤ n) (hn : n ≤ 5) (W : Nat → Nat → Nat) (rent : Nat) (hrent : rent ≤ 10000) (th : Int32) (nk nt rm : Nat → Int32) (ln : Int32) (lg : Nat → Int64) (wa ha tr be : Nat → Int32) (pr : Nat → Int64) (hr : rm 0 = nI n) (hre : rm 1 = nI rent) (hw : MRW n W wa) : Ev l zX5_reckons [.inr (40, 0)] (mkH th nk nt rm ln lg wa ha tr be pr) (fun r h' => r = none ∧ ∃ (rm' ha' tr' be' : Nat → Int32) (pr' : Nat → Int64), rm' 0 = nI n ∧ rm' 1 = nI rent ∧ (∀ k, k < n → ha' k = nI (ow W n k)) ∧ (∀ r, r < n → pr' r = zL (prc W n rent r)) ∧ h' = mkH th nk nt rm' ln lg wa ha' tr' be' pr') := by
  have hW : ∀ i j, i < n → j < n → W i j ≤ 1000 := fun i j hi hj => (hw i j hi hj).1
  refine ev_all okX5_reckons (by decide +kernel) (Nat.le_of_ble_eq_true rfl) ?_
  intro K hK
  refine hK [(6, [0, 1])] 80 0 _ _ _ ?_
  refine ⟨[40, 47, 49, 50], _, m_shares l n hn1 hn W th nk nt rm ln lg wa ha tr hr hw, fun r hc' hP _ => ?_⟩
  obtain ⟨rfl, ha', tr', hha, rfl⟩ := hP
  have hp0 : upd rm 2 (nI (sW W n (bX W n))) 0 = nI n := by rw [pk_un (by omega)]; exact hr
  have hp1 : upd rm 2 (nI (sW W n (bX W n))) 1 = nI rent := by rw [pk_un (by omega)]; exact hre
  have goal : ∀ rm' : Nat → Int32, rm' 0 = nI n → rm' 1 = nI rent → K 6 [(0, .inr (40, 0)), (1, vI 0)] [] (mkH th nk nt rm' ln lg wa ha' tr' be pr) := by
    intro rm' hr0 hr1
    have at183 : ∀ (be : Nat → Int32), (∀ r, r < n → be r = zI (bl W n r)) → ∀ (e r : Nat), r + e = n → ∀ (pr : Nat → Int64), (∀ q, q < r → pr q = zL (prc W n rent q)) → ∀ R : Int32, R = nI r → K 183 [(0, .inr (40, 0)), (2, vL (zL (smZ (bl W n) n))), (4, vI R)] [] (mkH th nk nt rm' ln lg wa ha' tr' be pr) := by
      intro be hbe e
      induction e with
      | zero =>
        intro r hr pr hpr R hR
        have hr : r = n := hr
        subst hr; subst hR
        refine hK [] 80 183 _ _ _ ?_
        refine And.intro (fun _ => ?_) (fun z => absurd (by show rm' 0 ≤ nI r; rw [hr0]; exact Int32.le_refl _) z)
        exact And.intro ⟨rfl, rm', ha', tr', be, pr, hr0, hr1, hha, hpr, rfl⟩ rfl
      | succ e ih =>
        intro r hr pr hpr R hR
        subst hR
        have hrn : r < n := by omega
        have cr : (nI r).toNatClampNeg = r := nI_clamp (by omega)
        have g1 := bl_rng hn1 hn hW hrn
        refine hK [(183, [0, 2, 4])] 80 183 _ _ _ ?_
        refine And.intro (fun z => absurd z (by show ¬ rm' 0 ≤ nI r; rw [hr0]; exact nI_ge (by omega) (by omega))) (fun _ => ?_)
        refine And.intro (vp_in_nI (by omega) (by omega)) (And.intro (vp_in_nI (by omega) (by omega)) ?_)
        refine ih (r + 1) (by omega) _ (fun q hq => ?_) _ (nI_1 r)
        show vp_updL pr (nI r).toNatClampNeg ((rm' 1).toInt64 - zL (smZ (bl W n) n) + (rm' 0).toInt64 * (be (nI r).toNatClampNeg).toInt64) q = _
        rw [cr]
        by_cases eq : q = r
        · subst eq
          rw [us_L, hbe q hrn, hr0, hr1, zL_nI (by omega), zL_nI (by omega), zL_zI (by omega) (by omega), zL_mul, zL_sub, zL_add]
          congr 1
          unfold prc
          omega
        · rw [un_L eq]
          exact hpr q (by omega)
    have at154 : ∀ (be : Nat → Int32), (∀ r, r < n → be r = zI (bl W n r)) → ∀ (e r : Nat), r + e = n → ∀ (S : Int64) (R : Int32), S = zL (smZ (bl W n) r) → R = nI r → K 154 [(0, .inr (40, 0)), (2, vL S), (4, vI R)] [] (mkH th nk nt rm' ln lg wa ha' tr' be pr) := by
      intro be hbe e
      induction e with
      | zero =>
        intro r hr S R hS hR
        have hr : r = n := hr
        subst hr; subst hR; subst hS
        refine hK [(183, [0, 2, 4])] 80 154 _ _ _ ?_
        refine And.intro (fun _ => ?_) (fun z => absurd (by show rm' 0 ≤ nI r; rw [hr0]; exact Int32.le_refl _) z)
        exact at183 be hbe r 0 (by omega) pr (fun q hq => absurd hq (Nat.not_lt_zero q)) 0 rfl
      | succ e ih =>
        intro r hr S R hS hR
        subst hR; subst hS
        have hrn : r < n := by omega
        have cr : (nI r).toNatClampNeg = r := nI_clamp (by omega)
        have g1 := bl_rng hn1 hn hW hrn
        refine hK [(154, [0, 2, 4])] 80 154 _ _ _ ?_
        refine And.intro (fun z => absurd z (by show ¬ rm' 0 ≤ nI r; rw [hr0]; exact nI_ge (by omega) (by omega))) (fun _ => ?_)
        refine And.intro (vp_in_nI (by omega) (by omega)) ?_
        refine ih (r + 1) (by omega) _ _ ?_ (nI_1 r)
        show zL (smZ (bl W n) r) + (be (nI r).toNatClampNeg).toInt64 = zL (smZ (bl W n) r + bl W n r)
        rw [cr, hbe r hrn, zL_zI (by omega) (by omega), zL_add]
    -- a pass: nothing has changed and all is well so far, or something has become less
    have at29 : ∀ (m : Nat) (bx : Nat → Int) (be : Nat → Int32), mu W n bx ≤ m → bRg W n bx be → K 29 [(0, .inr (40, 0)), (1, vI 1)] [] (mkH th nk nt rm' ln lg wa ha' tr' be pr) := by
      intro m
      induction m using Nat.strongRecOn with
      | _ m ihm =>
        intro bx0 be0 hmu hb0
        have at37 : ∀ (e i : Nat), i + e = n → ∀ (bx : Nat → Int) (be : Nat → Int32) (F : Int32), bRg W n bx be → ((F = 0 ∧ bx = bx0 ∧ ∀ i' j', i' < i → j' < n → bx (ow W n i') ≤ cst W n i' j' + bx (ow W n j')) ∨ (F = 1 ∧ mu W n bx < mu W n bx0)) → ∀ I : Int32, I = nI i → K 37 [(0, .inr (40, 0)), (1, vI F), (2, vI I)] [] (mkH th nk nt rm' ln lg wa ha' tr' be pr) := by
          intro e
          induction e with
          | zero =>
            intro i hi bx be F hb hF I hI
            have hi : i = n := hi
            subst hi; subst hI
            refine hK [(29, [0, 1])] 80 37 _ _ _ ?_
            refine And.intro (fun _ => ?_) (fun z => absurd (by show rm' 0 ≤ nI i; rw [hr0]; exact Int32.le_refl _) z)
            rcases hF with ⟨rfl, rfl, hfx⟩ | ⟨rfl, hlt⟩
            · -- the end
              refine hK [(154, [0, 2, 4])] 80 29 _ _ _ ?_
              refine And.intro (fun _ => ?_) (fun z => absurd rfl z)
              refine at154 be (fun r hr => ?_) i 0 (by omega) 0 0 rfl rfl
              obtain ⟨b1, b2, b3⟩ := hb r hr
              obtain ⟨j, hj, ej⟩ := ow_sur (W := W) hn1 hn hr
              have h1 := dW_max (c := cst W i) hn1 (x := fun k => bx (ow W i k)) (fun k hk => (hb _ (ow_lt hn1 k)).2.1) (fun i' j' hi' hj' => hfx i' j' hi' hj') i j hj
              have h1 : bx (ow W i j) ≤ dn W i j := h1
              have h2 : bl W i r = dn W i j := by rw [← ej, bl_ow hn1 hn hj]
              rw [ej] at h1
              rw [b3]
              congr 1
              omega
            · exact ihm (mu W i bx) (by omega) bx be (Nat.le_refl _) hb
          | succ e ihe =>
            intro i hi bx be F hb hF I hI
            subst hI
            have hin : i < n := by omega
            have ci : (nI i).toNatClampNeg = i := nI_clamp (by omega)
            have hai : ha' (nI i).toNatClampNeg = nI (ow W n i) := by rw [ci]; exact hha i hin
            have oi := ow_lt (W := W) hn1 i
            have coi : (nI (ow W n i)).toNatClampNeg = ow W n i := nI_clamp (by omega)
            have at47 : ∀ (f j : Nat), j + f = n → ∀ (bx : Nat → Int) (be : Nat → Int32) (F : Int32), bRg W n bx be → ((F = 0 ∧ bx = bx0 ∧ ∀ i' j', i' < i ∨ (i' = i ∧ j' < j) → j' < n → bx (ow W n i') ≤ cst W n i' j' + bx (ow W n j')) ∨ (F = 1 ∧ mu W n bx < mu W n bx0)) → ∀ J : Int32, J = nI j → K 47 [(0, .inr (40, 0)), (1, vI F), (2, vI (nI i)), (3, vI J)] [] (mkH th nk nt rm' ln lg wa ha' tr' be pr) := by
              intro f
              induction f with
              | zero =>
                intro j hj bx be F hb hF J hJ
                have hj : j = n := hj
                subst hj; subst hJ
                refine hK [(37, [0, 1, 2])] 80 47 _ _ _ ?_
                refine And.intro (fun _ => ?_) (fun z => absurd (by show rm' 0 ≤ nI j; rw [hr0]; exact Int32.le_refl _) z)
                refine ihe (i + 1) (by omega) bx be F hb ?_ _ (nI_1 i)
                rcases hF with ⟨f1, f2, f3⟩ | hF
                · exact Or.inl ⟨f1, f2, fun i' j' h1 h2 => f3 i' j' (by omega) h2⟩
                · exact Or.inr hF
              | succ f ihf =>
                intro j hj bx be F hb hF J hJ
                subst hJ
                have hjn : j < n := by omega
                have cj : (nI j).toNatClampNeg = j := nI_clamp (by omega)
                have haj : ha' (nI j).toNatClampNeg = nI (ow W n j) := by rw [cj]; exact hha j hjn
                have oj := ow_lt (W := W) hn1 j
                have coj : (nI (ow W n j)).toNatClampNeg = ow W n j := nI_clamp (by omega)
                obtain ⟨i1, i2⟩ := idx5_v (a := i) (b := ow W n i) (by omega) (by omega)
                obtain ⟨j1, j2⟩ := idx5_v (a := i) (b := ow W n j) (by omega) (by omega)
                obtain ⟨a1, a2, a3⟩ := hb (ow W n j) oj
                obtain ⟨b1, b2, b3⟩ := hb (ow W n i) oi
                have w1 := hW i (ow W n i) hin oi
                have w2 := hW i (ow W n j) hin oj
                have gi := bl_rng hn1 hn hW oi
                have gj := bl_rng hn1 hn hW oj
                have hc : cst W n i j = (W i (ow W n i) : Int) - (W i (ow W n j) : Int) := rfl
                have hval : be (ha' (nI j).toNatClampNeg).toNatClampNeg + wa (5 * nI i + ha' (nI i).toNatClampNeg).toNatClampNeg - wa (5 * nI i + ha' (nI j).toNatClampNeg).toNatClampNeg = zI (bx (ow W n j) + cst W n i j) := by
                  rw [haj, hai, coj, i2, j2, a3, (hw i (ow W n i) hin oi).2, (hw i (ow W n j) hin oj).2, ← zI_nat, ← zI_nat, zI_add, zI_sub]
                  congr 1
                  omega
                have hcmp : be (ha' (nI j).toNatClampNeg).toNatClampNeg + wa (5 * nI i + ha' (nI i).toNatClampNeg).toNatClampNeg - wa (5 * nI i + ha' (nI j).toNatClampNeg).toNatClampNeg < be (ha' (nI i).toNatClampNeg).toNatClampNeg ↔ bx (ow W n j) + cst W n i j < bx (ow W n i) := by
                  rw [hval, hai, coi, b3, lt_T, zI_T (by omega) (by omega), zI_T (by omega) (by omega)]
                refine hK [(47, [0, 1, 2, 3])] 80 47 _ _ _ ?_
                refine And.intro (fun z => absurd z (by show ¬ rm' 0 ≤ nI j; rw [hr0]; exact nI_ge (by omega) (by omega))) (fun _ => ?_)
                refine And.intro (vp_in_nI (by omega) (by omega)) (And.intro (by rw [haj]; exact vp_in_nI (by omega) (by omega)) (And.intro (vp_in_nI (by omega) (by omega)) (And.intro (by show vp_in (5 * nI i + ha' (nI i).toNatClampNeg) 25; rw [hai]; exact i1) (And.intro (vp_in_nI (by omega) (by omega)) (And.intro (by show vp_in (5 * nI i + ha' (nI j).toNatClampNeg) 25; rw [haj]; exact j1) (And.intro (vp_in_nI (by omega) (by omega)) (And.intro (by rw [hai]; exact vp_in_nI (by omega) (by omega)) ?_)))))))
                refine And.intro (fun z => ?_) (fun z => ?_)
                · have z := hcmp.mp z
                  have hfx := dn_fix (W := W) hn1 hn hin hjn
                  rw [bl_ow hn1 hn hjn] at a1
                  rw [bl_ow hn1 hn hin] at b1
                  refine And.intro (vp_in_nI (by omega) (by omega)) (And.intro (by rw [hai]; exact vp_in_nI (by omega) (by omega)) ?_)
                  refine ihf (j + 1) (by omega) (upZ bx (ow W n i) (bx (ow W n j) + cst W n i j)) _ 1 (fun q hq => ?_) (Or.inr ⟨rfl, ?_⟩) _ (nI_1 j)
                  · show _ ∧ _ ∧ upd be (ha' (nI i).toNatClampNeg).toNatClampNeg (be (ha' (nI j).toNatClampNeg).toNatClampNeg + wa (5 * nI i + ha' (nI i).toNatClampNeg).toNatClampNeg - wa (5 * nI i + ha' (nI j).toNatClampNeg).toNatClampNeg) q = _
                    rw [hval, hai, coi]
                    unfold upZ
                    by_cases eq : q = ow W n i
                    · subst eq
                      rw [if_pos rfl, pk_us, bl_ow hn1 hn hin]
                      exact ⟨by omega, by omega, rfl⟩
                    · rw [if_neg eq, pk_un eq]
                      exact hb q hq
                  · have hl := mu_lt hn1 hn hin z (by omega)
                    rcases hF with ⟨f1, f2, f3⟩ | ⟨f1, f2⟩
                    · rw [← f2]; exact hl
                    · omega
                · have z : ¬ bx (ow W n j) + cst W n i j < bx (ow W n i) := fun w => z (hcmp.mpr w)
                  refine ihf (j + 1) (by omega) bx be F hb ?_ _ (nI_1 j)
                  rcases hF with ⟨f1, f2, f3⟩ | hF
                  · refine Or.inl ⟨f1, f2, fun i' j' h1 h2 => ?_⟩
                    by_cases e2 : i' = i ∧ j' = j
                    · rw [e2.1, e2.2]
                      omega
                    · exact f3 i' j' (by omega) h2
                  · exact Or.inr hF
            refine hK [(47, [0, 1, 2, 3])] 80 37 _ _ _ ?_
            refine And.intro (fun z => absurd z (by show ¬ rm' 0 ≤ nI i; rw [hr0]; exact nI_ge (by omega) (by omega))) (fun _ => ?_)
            refine at47 n 0 (by omega) bx be F hb ?_ 0 rfl
            rcases hF with ⟨f1, f2, f3⟩ | hF
            · exact Or.inl ⟨f1, f2, fun i' j' h1 h2 => f3 i' j' (by omega) h2⟩
            · exact Or.inr hF
        refine hK [(37, [0, 1, 2])] 80 29 _ _ _ ?_
        refine And.intro (fun z => absurd z (by decide)) (fun _ => ?_)
        exact at37 n 0 (by omega) bx0 be0 0 hb0 (Or.inl ⟨rfl, rfl, fun i' j' h1 => absurd h1 (Nat.not_lt_zero i')⟩) 0 rfl
    have at6 : ∀ (e k : Nat), k + e = n → ∀ (be : Nat → Int32), (∀ j, j < k → be j = 0) → ∀ X : Int32, X = nI k → K 6 [(0, .inr (40, 0)), (1, vI X)] [] (mkH th nk nt rm' ln lg wa ha' tr' be pr) := by
      intro e
      induction e with
      | zero =>
        intro k hk be hbe X hX
        have hk : k = n := hk
        subst hk; subst hX
        refine hK [(29, [0, 1])] 80 6 _ _ _ ?_
        refine And.intro (fun _ => ?_) (fun z => absurd (by show rm' 0 ≤ nI k; rw [hr0]; exact Int32.le_refl _) z)
        exact at29 _ (fun _ => 0) be (Nat.le_refl _) (fun r hr => ⟨(bl_rng hn1 hn hW hr).2, Int.le_refl _, by rw [hbe r hr]; rfl⟩)
      | succ e ih =>
        intro k hk be hbe X hX
        subst hX
        have ck : (nI k).toNatClampNeg = k := nI_clamp (by omega)
        refine hK [(6, [0, 1])] 80 6 _ _ _ ?_
        refine And.intro (fun z => absurd z (by show ¬ rm' 0 ≤ nI k; rw [hr0]; exact nI_ge (by omega) (by omega))) (fun _ => ?_)
        refine And.intro (vp_in_nI (by omega) (by omega)) ?_
        refine ih (k + 1) (by omega) _ (fun j hj => ?_) _ (nI_1 k)
        rw [ck]
        by_cases ej : j = k
        · rw [ej, pk_us]
        · rw [pk_un ej]
          exact hbe j (by omega)
    exact at6 n 0 (by omega) be (fun j hj => absurd hj (Nat.not_lt_zero j)) 0 rfl
  exact goal _ hp0 hp1
theorem MR_of {n : Nat} {W : Nat → Nat → Nat} {rent : Nat} {mo : Nat → Int} {nk nt : Nat → Int32} {ln : Int32} {lg : Nat → Int64} {th : Int32} {rm wa ta ha tr be : Nat → Int32} {pr : Nat → Int64} {rm' : Nat → Int32} (hB : MRB n W rent mo rm wa ta) (h0 : rm' 0 = nI n) (h1 : rm' 1 = nI rent) : MR n W rent mo nk nt ln lg (mrH th nk nt rm' ln lg wa ta ha tr be pr) := by
  obtain ⟨b1, b2, b3, b4, b5, b6, b7⟩ := hB
  exact ⟨th, rm', wa, ta, ha, tr, be, pr, rfl, b1, b2, b3, h0, h1, b6, b7⟩
theorem m_best (l : Launch) (n : Nat) (W : Nat → Nat → Nat) (rent : Nat) (mo : Nat → Int) (nk nt : Nat → Int32) (ln : Int32) (lg : Nat → Int64) (h : xH) (hH : MR n W rent mo nk nt ln lg h) : Ev l zX5_best [.inr (40, 0)] h (fun r h' => r = some (vI (nI (sW W n (bX W n)))) ∧ MR n W rent mo nk nt ln lg h') := by
  obtain ⟨th, rm, wa, ta, ha, tr, be, pr, rfl, hB⟩ := hH
  obtain ⟨h1, h2, h3, h4, h5, h6, h7⟩ := id hB
  refine ev_run okX5_best (by decide +kernel) (Nat.le_of_ble_eq_true rfl) 60 ?_
  refine ⟨[40, 47, 49, 50], _, m_shares l n h1 h2 W 0 nk nt rm ln lg wa ha tr h4 h6, fun r hc' hP _ => ?_⟩
  obtain ⟨rfl, ha', tr', hha, rfl⟩ := hP
  exact And.intro ⟨rfl, MR_of hB (rm' := upd rm 2 (nI (sW W n (bX W n)))) (by rw [pk_un (by omega)]; exact h4) (by rw [pk_un (by omega)]; exact h5)⟩ rfl
theorem m_has (l : Launch) (n : Nat) (W : Nat → Nat → Nat) (rent : Nat) (mo : Nat → Int) (nk nt : Nat → Int32) (ln : Int32) (lg : Nat → Int64) (h : xH) (hH : MR n W rent mo nk nt ln lg h) (x : Int32) : Ev l zX5_has [.inr (40, 0), vI x] h (fun r h' => r = some (vI (qHas n W x)) ∧ MR n W rent mo nk nt ln lg h') := by
  obtain ⟨th, rm, wa, ta, ha, tr, be, pr, rfl, hB⟩ := hH
  obtain ⟨h1, h2, h3, h4, h5, h6, h7⟩ := id hB
  refine ev_run okX5_has (by decide +kernel) (Nat.le_of_ble_eq_true rfl) 60 ?_
  refine ⟨[40], _, m_isOne l n h2 0 nk nt rm ln lg h4 x, fun r hc' hP _ => ?_⟩
  obtain ⟨rfl, rfl⟩ := hP
  refine And.intro (fun q => ?_) (fun q => ?_)
  · have q := b2i1 q
    refine ⟨[40, 47, 49, 50], _, m_shares l n h1 h2 W 0 nk nt rm ln lg wa ha tr h4 h6, fun r hc' hP _ => ?_⟩
    obtain ⟨rfl, ha', tr', hha, rfl⟩ := hP
    unfold qHas
    rw [if_pos q]
    obtain ⟨k, hk, rfl, hkt⟩ := is1_of q
    refine And.intro (vp_in_nI (by omega) (by omega)) (And.intro ⟨?_, MR_of hB (rm' := upd rm 2 (nI (sW W n (bX W n)))) (by rw [pk_un (by omega)]; exact h4) (by rw [pk_un (by omega)]; exact h5)⟩ rfl)
    show some (vI (ha' (nI k).toNatClampNeg)) = _
    rw [nI_clamp (by omega), hha k hk, hkt]
    rfl
  · refine And.intro ⟨?_, MR_of hB h4 h5⟩ rfl
    unfold qHas
    rw [b2i0 q]
    rfl
theorem m_price (l : Launch) (n : Nat) (W : Nat → Nat → Nat) (rent : Nat) (mo : Nat → Int) (nk nt : Nat → Int32) (ln : Int32) (lg : Nat → Int64) (h : xH) (hH : MR n W rent mo nk nt ln lg h) (x : Int32) : Ev l zX5_price [.inr (40, 0), vI x] h (fun r h' => r = some (vL (qPrice n W rent x)) ∧ MR n W rent mo nk nt ln lg h') := by
  obtain ⟨th, rm, wa, ta, ha, tr, be, pr, rfl, hB⟩ := hH
  obtain ⟨h1, h2, h3, h4, h5, h6, h7⟩ := id hB
  refine ev_run okX5_price (by decide +kernel) (Nat.le_of_ble_eq_true rfl) 60 ?_
  refine ⟨[40], _, m_isOne l n h2 0 nk nt rm ln lg h4 x, fun r hc' hP _ => ?_⟩
  obtain ⟨rfl, rfl⟩ := hP
  refine And.intro (fun q => ?_) (fun q => ?_)
  · have q := b2i1 q
    refine ⟨[40, 47, 49, 50, 51, 52], _, m_reckons l n h1 h2 W rent h3 0 nk nt rm ln lg wa ha tr be pr h4 h5 h6, fun r hc' hP _ => ?_⟩
    obtain ⟨rfl, rm', ha', tr', be', pr', g0, g1, g2, g3, rfl⟩ := hP
    unfold qPrice
    rw [if_pos q]
    obtain ⟨k, hk, rfl, hkt⟩ := is1_of q
    refine And.intro (vp_in_nI (by omega) (by omega)) (And.intro ⟨?_, MR_of hB g0 g1⟩ rfl)
    show some (vL (pr' (nI k).toNatClampNeg)) = _
    rw [nI_clamp (by omega), g3 k hk, hkt]
    rfl
  · refine And.intro ⟨?_, MR_of hB h4 h5⟩ rfl
    unfold qPrice
    rw [b2i0 q]
    rfl
abbrev mgH (th : Int32) (nk nt rm : Nat → Int32) (ln : Int32) (lg : Nat → Int64) (wa ta ha : Nat → Int32) (pr : Nat → Int64) : xH := [mdO th nk nt rm ln lg, iA 47 25 wa, iA 48 5 ta, iA 49 5 ha, lA 52 5 pr]
theorem m_grudgeOf (l : Launch) (n : Nat) (hn1 : 1 ≤ n) (hn : n ≤ 5) (W : Nat → Nat → Nat) (rent : Nat) (mo : Nat → Int) (th : Int32) (nk nt rm : Nat → Int32) (ln : Int32) (lg : Nat → Int64) (wa ta ha : Nat → Int32) (pr : Nat → Int64) (hr : rm 0 = nI n) (hw : MRW n W wa) (ht : MRT n mo ta) (hha : ∀ k, k < n → ha k = nI (ow W n k)) (hpr : ∀ r, r < n → pr r = zL (prc W n rent r)) (i j : Nat) (hi : i < n) (hj : j < n) (x y : Int32) (hx : x = nI i) (hy : y = nI j) : Ev l zX5_grudgeOf [.inr (40, 0), vI x, vI y] (mgH th nk nt rm ln lg wa ta ha pr) (fun r h' => r = some (vL (zL (gn n W rent mo i (ow W n j) - gn n W rent mo i (ow W n i)))) ∧ h' = mgH th nk nt rm ln lg wa ta ha pr) := by
  subst hx; subst hy
  have ci : (nI i).toNatClampNeg = i := nI_clamp (by omega)
  have cj : (nI j).toNatClampNeg = j := nI_clamp (by omega)
  have oi := ow_lt (W := W) hn1 i
  have oj := ow_lt (W := W) hn1 j
  have coi : (nI (ow W n i)).toNatClampNeg = ow W n i := nI_clamp (by omega)
  have coj : (nI (ow W n j)).toNatClampNeg = ow W n j := nI_clamp (by omega)
  have hai : ha (nI i).toNatClampNeg = nI (ow W n i) := by rw [ci]; exact hha i hi
  have haj : ha (nI j).toNatClampNeg = nI (ow W n j) := by rw [cj]; exact hha j hj
  obtain ⟨i1, i2⟩ := idx5_v (a := i) (b := ow W n i) (by omega) (by omega)
  obtain ⟨j1, j2⟩ := idx5_v (a := i) (b := ow W n j) (by omega) (by omega)
  obtain ⟨m1, m2, m3⟩ := ht (ow W n i) oi
  obtain ⟨k1, k2, k3⟩ := ht (ow W n j) oj
  have w1 := (hw i (ow W n i) hi oi).1
  have w2 := (hw i (ow W n j) hi oj).1
  refine ev_run okX5_grudgeOf (by decide +kernel) (Nat.le_of_ble_eq_true rfl) 100 ?_
  refine And.intro (vp_in_nI (by omega) (by omega)) (And.intro (by show vp_in (5 * nI i + ha (nI i).toNatClampNeg) 25; rw [hai]; exact i1) (And.intro (vp_in_nI (by omega) (by omega)) (And.intro (by rw [hai]; exact vp_in_nI (by omega) (by omega)) (And.intro (vp_in_nI (by omega) (by omega)) (And.intro (by rw [hai]; exact vp_in_nI (by omega) (by omega)) ?_)))))
  refine And.intro (vp_in_nI (by omega) (by omega)) (And.intro (by show vp_in (5 * nI i + ha (nI j).toNatClampNeg) 25; rw [haj]; exact j1) (And.intro (vp_in_nI (by omega) (by omega)) (And.intro (by rw [haj]; exact vp_in_nI (by omega) (by omega)) (And.intro (vp_in_nI (by omega) (by omega)) (And.intro (by rw [haj]; exact vp_in_nI (by omega) (by omega)) ?_)))))
  refine And.intro ⟨?_, rfl⟩ rfl
  show some (vL (((rm 0).toInt64 * (wa (5 * nI i + ha (nI j).toNatClampNeg).toNatClampNeg).toInt64 - pr (ha (nI j).toNatClampNeg).toNatClampNeg - (ta (ha (nI j).toNatClampNeg).toNatClampNeg).toInt64) - ((rm 0).toInt64 * (wa (5 * nI i + ha (nI i).toNatClampNeg).toNatClampNeg).toInt64 - pr (ha (nI i).toNatClampNeg).toNatClampNeg - (ta (ha (nI i).toNatClampNeg).toNatClampNeg).toInt64))) = _
  rw [hai, haj, i2, j2, coi, coj, (hw i (ow W n i) hi oi).2, (hw i (ow W n j) hi oj).2, hpr _ oi, hpr _ oj, m3, k3, hr, zL_nI (by omega), zL_nI (by omega), zL_nI (by omega), zL_zI (by omega) (by omega), zL_zI (by omega) (by omega), zL_mul, zL_mul, zL_sub, zL_sub, zL_sub, zL_sub, zL_sub]
  congr 3
  unfold gn
  omega
theorem m_grudge (l : Launch) (n : Nat) (W : Nat → Nat → Nat) (rent : Nat) (mo : Nat → Int) (nk nt : Nat → Int32) (ln : Int32) (lg : Nat → Int64) (h : xH) (hH : MR n W rent mo nk nt ln lg h) (x y : Int32) : Ev l zX5_grudge [.inr (40, 0), vI x, vI y] h (fun r h' => r = some (vL (qGrudge n W rent mo x y)) ∧ MR n W rent mo nk nt ln lg h') := by
  obtain ⟨th, rm, wa, ta, ha, tr, be, pr, rfl, hB⟩ := hH
  obtain ⟨h1, h2, h3, h4, h5, h6, h7⟩ := id hB
  have no : (is1 n x && is1 n y) = false → qGrudge n W rent mo x y = minL := fun q => by
    unfold qGrudge
    rw [q]
    rfl
  refine ev_run okX5_grudge (by decide +kernel) (Nat.le_of_ble_eq_true rfl) 60 ?_
  refine ⟨[40], _, m_isOne l n h2 0 nk nt rm ln lg h4 x, fun r hc' hP _ => ?_⟩
  obtain ⟨rfl, rfl⟩ := hP
  refine And.intro (fun q => ?_) (fun q => ?_)
  · refine And.intro ⟨?_, MR_of hB h4 h5⟩ rfl
    rw [no (by rw [b2i0 q]; rfl)]
    rfl
  refine ⟨[40], _, m_isOne l n h2 0 nk nt rm ln lg h4 y, fun r hc' hP _ => ?_⟩
  obtain ⟨rfl, rfl⟩ := hP
  refine And.intro (fun q1 => ?_) (fun q1 => ?_)
  · have q := b2i1 q
    have q1 := b2i1 q1
    refine ⟨[40, 47, 49, 50, 51, 52], _, m_reckons l n h1 h2 W rent h3 0 nk nt rm ln lg wa ha tr be pr h4 h5 h6, fun r hc' hP _ => ?_⟩
    obtain ⟨rfl, rm', ha', tr', be', pr', g0, g1, g2, g3, rfl⟩ := hP
    have e : (is1 n x && is1 n y) = true := by rw [q, q1]; rfl
    unfold qGrudge
    rw [if_pos e]
    obtain ⟨a, ha, rfl, hat⟩ := is1_of q
    obtain ⟨b, hb, rfl, hbt⟩ := is1_of q1
    refine ⟨[40, 47, 48, 49, 52], _, m_grudgeOf l n h1 h2 W rent mo 0 nk nt rm' ln lg wa ta ha' pr' g0 h6 h7 g2 g3 a b ha hb _ _ rfl rfl, fun v hc' hP _ => ?_⟩
    obtain ⟨rfl, rfl⟩ := hP
    refine And.intro ⟨?_, MR_of hB g0 g1⟩ rfl
    rw [hat, hbt]
    rfl
  · refine And.intro ⟨?_, MR_of hB h4 h5⟩ rfl
    rw [no (by rw [b2i0 q1, Bool.and_false])]
    rfl
