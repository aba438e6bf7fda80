/-! ===== searchRows: the rows of so many cuts, in their order ===== -/
def FR (acc : List (List Nat)) (many : Nat) (fr : Nat → Int32) : Prop := ∀ (cs : List Nat) (t : List (List Nat)), acc = cs :: t → ∀ i, i < many → fr i = nI (cs.getD i 0)
abbrev kLv (many : Nat) (pt s3 : Int32) : xL := [(0, .inr (1, 0)), (1, vI (nI many)), (2, vI pt), (3, vI s3)]
theorem nI_m1 {p : Nat} : nI p + (-1) + 1 = nI p := by
  rw [Int32.add_assoc, show (-1 : Int32) + 1 = 0 from rfl, Int32.add_zero]
theorem FR_keep {acc : List (List Nat)} {many : Nat} {fr fr' en : Nat → Int32} {rc : Int32} {row : List Nat} (hF : FR acc many fr) (hrc : rc = nI acc.length) (hl : acc.length < 2 ^ 31) (h1 : rc = 0 → ∀ i, i < many → fr' i = en (i + 2)) (h2 : ¬ rc = 0 → fr' = fr) (hen : ∀ i, i < many → en (i + 2) = nI (row.getD i 0)) : FR (acc ++ [row]) many fr' := by
  intro cs t e i hi
  cases acc with
  | nil =>
    cases e
    rw [h1 (by rw [hrc]; rfl) i hi, hen i hi]
  | cons a acc =>
    have hne : ¬ rc = 0 := by
      rw [hrc]
      exact nI_ne0 (by simp) hl
    rw [h2 hne]
    cases e
    exact hF _ _ rfl i hi
section DFS
variable {l : Launch} {bs : Nat → Nat} {n many : Nat} {ah : Nat → Int32} {bd se fw : Int32} {P : Option xV → xH → Prop} {hc : xH} {K : Nat → xL → List xV → xH → Prop}
theorem dfs (hK : KR l mtX1 kX1_searchRows hc P K) (hB : NB bs n ah bd) (hm4 : many ≤ 4) (hmn : many < n) : ∀ (m d lo : Nat) (rp : List Nat) (acc : List (List Nat)) (en ow fr : Nat → Int32) (rc pt s3 : Int32) (sc : Nat),
    rp.length + m = many → nDesc rp → (∀ x ∈ rp, x < lo) → 1 ≤ lo → lo + d = n → nIn bs n (fun s => rO bs s rp) → DI bs en ow rp → (1 ≤ m → en (rp.length + 2) = nI (lo - 1)) → rc = nI acc.length → FR acc many fr → acc.length + cost m d < 2 ^ 30 → pt = nI rp.length → s3 = nI sc → sc + cost m d ≤ 1000000 →
    (∀ (en' ow' fr' : Nat → Int32) (rc' pt' s3' : Int32) (sc' : Nat), DI bs en' ow' rp → rc' = nI (acc ++ nL bs n rp m d lo).length → FR (acc ++ nL bs n rp m d lo) many fr' → (acc ++ nL bs n rp m d lo).length ≤ acc.length + cost m d → pt' = nI rp.length + (-1) → s3' = nI sc' → sc' ≤ sc + cost m d → K 18 (kLv many pt' s3') [] (nkH ah en' ow' fr' bd se fw rc')) →
    K 18 (kLv many pt s3) [] (nkH ah en ow fr bd se fw rc) := by
  have hn24 := hB.1
  intro m
  induction m with
  | zero =>
    intro d lo rp acc en ow fr rc pt s3 sc hlen hdes hx hlo hn hin hDI _ hrc hFR hal hpt hs3 hcost next
    subst hpt; subst hs3
    have hlen : rp.length = many := hlen
    have ecost : cost 0 d = 1 := by cases d <;> rfl
    rw [ecost] at hcost hal
    have hxn : ∀ x ∈ rp, x ≤ n := fun x hxm => by have := hx x hxm; omega
    refine hK [(18, [0, 1, 2, 3])] 60 18 _ _ _ ?_
    refine And.intro (fun h1 => absurd (show nI 1000000 ≤ nI sc from h1) (nI_ge (by omega) (by omega))) (fun _ => ?_)
    refine And.intro (fun h1 => absurd h1 (nI_pos (by omega))) (fun _ => ?_)
    refine And.intro (fun h1 => absurd (by rw [hlen]) h1) (fun _ => ?_)
    obtain ⟨hn1, hs1, rfl, hah1⟩ := id hB
    refine ⟨[1, 2, 3, 4, 5], _, c_takes l bs n ah en ow fr (nI n) se fw rc hB rp hdes n hxn (Nat.le_refl n) (by omega) (DI_head hDI) (DI_own hDI) _ _ rfl rfl, fun r hc' hP _ => ?_⟩
    obtain ⟨⟨b, rfl, hb⟩, rfl⟩ := hP
    have hleaf := nL_leaf hdes hxn hin d lo b hb
    have hDI' := DI_upd (x := nI n) (y := nI (pkO bs (n :: rp))) hDI (Nat.le_refl (rp.length + 2))
    refine And.intro (fun h1 => ?_) (fun h1 => ?_)
    · have hbf := b2i0 h1
      rw [hbf] at hleaf
      refine next _ _ fr rc _ _ (sc + 1) hDI' ?_ ?_ ?_ rfl (nI_1 sc) (by omega)
      · rw [hleaf]; simp [hrc]
      · rw [hleaf]; simp; exact hFR
      · rw [hleaf]; simp
    · have hbt := b2i1 h1
      rw [hbt] at hleaf
      refine ⟨[1, 2, 3, 4, 5], _, c_keepRow l ah (upd en (rp.length + 2) (nI n)) (upd ow (rp.length + 2) (nI (pkO bs (n :: rp)))) fr (nI n) se fw rc many (by omega) _ rfl, fun r hc' hP _ => ?_⟩
      obtain ⟨rfl, fr', k1, k2, rfl⟩ := hP
      refine next _ _ fr' (rc + 1) _ _ (sc + 1) hDI' ?_ ?_ ?_ rfl (nI_1 sc) (by omega)
      · rw [hleaf, hrc]
        show nI acc.length + 1 = nI (acc ++ [rp.reverse]).length
        rw [nI_1]
        simp
      · rw [hleaf]
        exact FR_keep hFR hrc (by omega) k1 k2 (fun i hi => DI_ends hDI' i (by omega))
      · rw [hleaf]
        show (acc ++ [rp.reverse]).length ≤ _
        rw [ecost]
        simp
  | succ m ihm =>
    intro d
    induction d with
    | zero =>
      intro lo rp acc en ow fr rc pt s3 sc hlen hdes hx hlo hn hin hDI hv hrc hFR hal hpt hs3 hcost next
      subst hpt; subst hs3
      have ecost : cost (m + 1) 0 = 1 := rfl
      rw [ecost] at hcost hal
      have hv := hv (by omega)
      obtain ⟨hn1, hs1, rfl, hah1⟩ := id hB
      refine hK [(18, [0, 1, 2, 3])] 60 18 _ _ _ ?_
      refine And.intro (fun h1 => absurd (show nI 1000000 ≤ nI sc from h1) (nI_ge (by omega) (by omega))) (fun _ => ?_)
      refine And.intro (fun h1 => absurd h1 (nI_pos (by omega))) (fun _ => ?_)
      refine And.intro (fun _ => ?_) (fun h1 => absurd ((nI_eq (by omega) (by omega)).mp h1) (by omega))
      refine And.intro (by show vp_in (nI rp.length + 2) 26; rw [show nI rp.length + 2 = nI (rp.length + 2) from nI_add _ 2]; exact vp_in_nI (by omega) (by omega)) ?_
      have hend : en (nI rp.length + 2).toNatClampNeg = nI (lo - 1) := by
        rw [show nI rp.length + 2 = nI (rp.length + 2) from nI_add _ 2, nI_clamp (by omega)]
        exact hv
      have hbound : nI n - nI many + nI rp.length = nI (n - many + rp.length) := by rw [pk_sub (by omega), nI_add]
      refine And.intro (fun _ => ?_) (fun h1 => ?_)
      · refine next _ _ fr rc _ _ (sc + 1) hDI ?_ ?_ ?_ rfl (nI_1 sc) (by omega)
        · rw [nL_short bs n rp (by omega)]; simp [hrc]
        · rw [nL_short bs n rp (by omega)]; simp; exact hFR
        · rw [nL_short bs n rp (by omega)]; simp
      · exfalso
        apply h1
        show nI n - nI many + nI rp.length ≤ en (nI rp.length + 2).toNatClampNeg
        rw [hend, hbound]
        exact nI_le (by omega) (by omega)
    | succ d ihd =>
      intro lo rp acc en ow fr rc pt s3 sc hlen hdes hx hlo hn hin hDI hv hrc hFR hal hpt hs3 hcost next
      subst hpt; subst hs3
      have ecost : cost (m + 1) (d + 1) = 1 + cost m d + cost (m + 1) d := rfl
      have hcp1 := cost_pos m d
      have hcp2 := cost_pos (m + 1) d
      rw [ecost] at hcost hal
      have hv := hv (by omega)
      obtain ⟨hn1, hs1, rfl, hah1⟩ := id hB
      have hxl : ∀ x ∈ rp, x ≤ lo := fun x hxm => Nat.le_of_lt (hx x hxm)
      refine hK [(18, [0, 1, 2, 3])] 80 18 _ _ _ ?_
      refine And.intro (fun h1 => absurd (show nI 1000000 ≤ nI sc from h1) (nI_ge (by omega) (by omega))) (fun _ => ?_)
      refine And.intro (fun h1 => absurd h1 (nI_pos (by omega))) (fun _ => ?_)
      refine And.intro (fun _ => ?_) (fun h1 => absurd ((nI_eq (by omega) (by omega)).mp h1) (by omega))
      refine And.intro (by show vp_in (nI rp.length + 2) 26; rw [show nI rp.length + 2 = nI (rp.length + 2) from nI_add _ 2]; exact vp_in_nI (by omega) (by omega)) ?_
      have hend : en (nI rp.length + 2).toNatClampNeg = nI (lo - 1) := by
        rw [show nI rp.length + 2 = nI (rp.length + 2) from nI_add _ 2, nI_clamp (by omega)]
        exact hv
      have hbound : nI n - nI many + nI rp.length = nI (n - many + rp.length) := by rw [pk_sub (by omega), nI_add]
      have hstop : nL bs n rp (m + 1) (d + 1) lo = [] → K 18 (kLv many (nI rp.length + (-1)) (nI sc + 1)) [] (nkH ah en ow fr (nI n) se fw rc) := by
        intro hnil
        refine next en ow fr rc _ _ (sc + 1) hDI ?_ ?_ ?_ rfl (nI_1 sc) (by rw [ecost]; omega)
        · rw [hnil]; simp [hrc]
        · rw [hnil]; simp; exact hFR
        · rw [hnil]; simp
      refine And.intro (fun h1 => ?_) (fun h1 => ?_)
      · refine hstop (nL_short bs n rp ?_)
        have h1 : nI n - nI many + nI rp.length ≤ en (nI rp.length + 2).toNatClampNeg := h1
        rw [hend, hbound, nI_leI (by omega) (by omega)] at h1
        omega
      · refine And.intro (by show vp_in (nI rp.length + 2) 26; rw [show nI rp.length + 2 = nI (rp.length + 2) from nI_add _ 2]; exact vp_in_nI (by omega) (by omega)) ?_
        refine ⟨[1, 2, 3, 4, 5], _, c_takes l bs n ah en ow fr (nI n) se fw rc hB rp hdes lo hxl (by omega) (by omega) (DI_head hDI) (DI_own hDI) _ _ rfl (by
          show en (nI rp.length + 2).toNatClampNeg + 1 = nI lo
          rw [hend, nI_1]
          congr 1
          omega), fun r hc' hP _ => ?_⟩
        obtain ⟨⟨b, rfl, hb⟩, rfl⟩ := hP
        have hDI' := DI_upd (x := nI lo) (y := nI (pkO bs (lo :: rp))) hDI (Nat.le_refl (rp.length + 2))
        refine And.intro (fun h2 => ?_) (fun h2 => ?_)
        · -- too much: back
          have hbf := b2i0 h2
          have hnil : nL bs n rp (m + 1) (d + 1) lo = [] := nL_prune hdes hlo hx hn (fun q => by rw [hb.mpr q] at hbf; cases hbf)
          refine next _ _ fr rc _ _ (sc + 1) hDI' ?_ ?_ ?_ rfl (nI_1 sc) (by rw [ecost]; omega)
          · rw [hnil]; simp [hrc]
          · rw [hnil]; simp; exact hFR
          · rw [hnil]; simp
        · -- one part more
          have hbt := hb.mp (b2i1 h2)
          have e3 : nI rp.length + 1 + 2 = nI (rp.length + 3) := by rw [nI_1]; exact nI_add _ 2
          have e2 : nI rp.length + 1 + 1 = nI (rp.length + 2) := by rw [nI_1, nI_1]
          refine And.intro (by show vp_in (nI rp.length + 1 + 1) 26; rw [e2]; exact vp_in_nI (by omega) (by omega)) ?_
          refine And.intro (by show vp_in (nI rp.length + 1 + 2) 26; rw [e3]; exact vp_in_nI (by omega) (by omega)) ?_
          have hdes' : nDesc (lo :: rp) := by
            cases rp with
            | nil => exact hlo
            | cons a r => exact ⟨hx a List.mem_cons_self, hdes⟩
          have hnew : upd (upd en (rp.length + 2) (nI lo)) (nI rp.length + 1 + 2).toNatClampNeg (upd en (rp.length + 2) (nI lo) (nI rp.length + 1 + 1).toNatClampNeg) = upd (upd en (rp.length + 2) (nI lo)) (rp.length + 3) (nI lo) := by
            rw [e3, e2, nI_clamp (by omega), nI_clamp (by omega), pk_us]
          have hDI2 : DI bs (upd (upd en (rp.length + 2) (nI lo)) (rp.length + 3) (nI lo)) (upd ow (rp.length + 2) (nI (pkO bs (lo :: rp)))) (lo :: rp) := by
            refine ⟨by rw [pk_un (by omega), pk_us], by rw [pk_us], ?_⟩
            exact DI_updE hDI' (by omega)
          have goal := ihm d (lo + 1) (lo :: rp) acc (upd (upd en (rp.length + 2) (nI lo)) (rp.length + 3) (nI lo)) (upd ow (rp.length + 2) (nI (pkO bs (lo :: rp)))) fr rc (nI rp.length + 1) (nI sc + 1) (sc + 1) (by rw [List.length_cons]; omega) hdes' (fun x hxm => by
              rcases List.mem_cons.mp hxm with rfl | h
              · omega
              · have := hx x h; omega) (by omega) (by omega) hbt hDI2 (fun _ => by rw [List.length_cons, pk_us]; congr 1) hrc hFR (by omega) (nI_1 _) (nI_1 _) (by omega) (fun en' ow' fr' rc' pt' s3' sc' hDI3 hrc3 hFR3 hl3 hpt3 hs33 hsc3 => by
              have hDI4 : DI bs en' ow' rp := hDI3.2.2
              refine ihd (lo + 1) rp (acc ++ nL bs n (lo :: rp) m d (lo + 1)) en' ow' fr' rc' pt' s3' sc' hlen hdes (fun x hxm => by have := hx x hxm; omega) (by omega) (by omega) hin hDI4 (fun _ => by have := hDI3.1; rw [this]; congr 1) hrc3 hFR3 (by omega) (by rw [hpt3, List.length_cons, ← nI_1, Int32.add_assoc, show (1 : Int32) + (-1) = 0 from rfl, Int32.add_zero]) hs33 (by omega) (fun en5 ow5 fr5 rc5 pt5 s35 sc5 hDI5 hrc5 hFR5 hl5 hpt5 hs55 hsc5 => ?_)
              have e : acc ++ nL bs n (lo :: rp) m d (lo + 1) ++ nL bs n rp (m + 1) d (lo + 1) = acc ++ nL bs n rp (m + 1) (d + 1) lo := by rw [nL_succ, List.append_assoc]
              rw [e] at hrc5 hFR5 hl5
              exact next en5 ow5 fr5 rc5 pt5 s35 sc5 hDI5 hrc5 hFR5 (by rw [ecost]; omega) hpt5 hs55 (by rw [ecost]; omega))
          rw [← hnew] at goal
          exact goal
end DFS
theorem c_searchRows (l : Launch) (bs : Nat → Nat) (n : Nat) (ah en ow fr : Nat → Int32) (bd se fw : Int32) (hB : NB bs n ah bd) (many : Nat) (hm4 : many ≤ 4) (hmn : many < n) (ho0 : ow 0 = 0) (ho1 : ow 1 = 0) (x : Int32) (hx : x = nI many) :
    Ev l zX1_searchRows [.inr (1, 0), vI x] (nkH ah en ow fr bd se fw 0) (fun r h' => r = none ∧ ∃ (en' ow' fr' : Nat → Int32), ow' 0 = 0 ∧ ow' 1 = 0 ∧ FR (nRowsL bs n many) many fr' ∧ h' = nkH ah en' ow' fr' bd se fw (nI (nRowsL bs n many).length)) := by
  subst hx
  have hn24 := hB.1
  refine ev_all okX1_searchRows (by decide +kernel) (Nat.le_of_ble_eq_true rfl) ?_
  intro K hK
  refine hK [(18, [0, 1, 2, 3])] 60 0 _ _ _ ?_
  refine And.intro (vp_in_nI (n := 1) (by omega) (by omega)) ?_
  refine And.intro (vp_in_nI (n := 2) (by omega) (by omega)) ?_
  have hcl := cost_le many (by omega) (n - 1) (by omega)
  have e : nL bs n [] many (n - 1) 1 = nRowsL bs n many := by
    unfold nL nRowsL
    congr 1
    show List.map (fun t => [] ++ t) _ = _
    simp
  refine dfs hK hB hm4 hmn many (n - 1) 1 [] [] (upd (upd en 1 0) 2 0) ow fr 0 0 0 0 (by simp) trivial (fun x hx => absurd hx List.not_mem_nil) (by omega) (by omega) (fun s _ => Nat.zero_le _) ⟨by rw [pk_un (by omega), pk_us], ho0, ho1⟩ (fun _ => by rw [show ([] : List Nat).length + 2 = 2 from rfl, pk_us]; rfl) rfl (fun cs t q => by cases q) (by simp; omega) rfl rfl (by omega) ?_
  intro en' ow' fr' rc' pt' s3' sc' hDI hrc hFR _ hpt hs3 hsc
  rw [List.nil_append, e] at hrc hFR
  have hpt : pt' = -1 := hpt
  subst hpt; subst hs3; subst hrc
  refine hK [] 60 18 _ _ _ ?_
  have hend : (fun r h' => r = none ∧ ∃ (en' ow' fr' : Nat → Int32), ow' 0 = 0 ∧ ow' 1 = 0 ∧ FR (nRowsL bs n many) many fr' ∧ h' = nkH ah en' ow' fr' bd se fw (nI (nRowsL bs n many).length)) (none : Option xV) (nkH ah en' ow' fr' bd se fw (nI (nRowsL bs n many).length)) := ⟨rfl, en', ow', fr', hDI.2.1, hDI.2.2, hFR, rfl⟩
  refine And.intro (fun _ => And.intro hend rfl) (fun _ => ?_)
  refine And.intro (fun _ => And.intro hend rfl) (fun h1 => absurd (by decide) h1)
