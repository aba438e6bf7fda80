/-! ===== the law's loop ===== -/
theorem nI_4 (i : Nat) : nI (4 * i) + 4 = nI (4 * (i + 1)) := by
  rw [show (4 : Int32) = nI 4 from rfl, nI_add]
  rfl
theorem vp_off {i sL : Nat} (h : 4 * i + 4 ≤ sL) (hs : sL ≤ 2048) (j : Nat) (hj : j < 4) : vp_in (nI (4 * i) + nI j) sL := by
  rw [nI_add]
  exact vp_in_nI (by omega) (by omega)
theorem law_left {i sL : Nat} (hs : sL ≤ 2048) (hi : 4 * i < 4096) (q : ¬ Int32.ofNat sL - 4 < nI (4 * i)) : 4 * i + 4 ≤ sL := by
  have e : Int32.ofNat sL - 4 = zI ((sL : Int) - 4) := by
    rw [← zI_sub, zI_nat]
    rfl
  rw [e, lt_T, zI_T (by omega) (by omega), nI_toInt (by omega)] at q
  omega
set_option maxRecDepth 20000 in
theorem law_next {sL : Nat} {xs : Nat → Int32} {l : Launch} {K : Nat → xL → List xV → xH → Prop} (hK : YR sL xs l mtL kLaw rt1 K) {i : Nat} {hp : xH} (h : K 18 (lvL (i + 1)) [] hp) : K 912 (lvL i) [] hp := by
  refine hK [(18, [0, 1, 2, 3])] 10 912 _ _ _ ?_
  have h : K 18 [(0, .inr (99, 0)), (1, .inr (0, 0)), (2, .inr (40, 0)), (3, vI (nI (4 * (i + 1))))] [] hp := h
  rw [← nI_4] at h
  exact h
set_option maxRecDepth 20000 in
theorem law_case {sL : Nat} {xs : Nat → Int32} {l : Launch} {K : Nat → xL → List xV → xH → Prop} (hK : YR sL xs l mtL kLaw rt1 K) (hs : sL ≤ 2048) {i : Nat} (hi : 4 * i < 4096) {hp : xH} (hX : LX hp) (go : 4 * i + 4 ≤ sL → ∀ hp', LX hp' → K 912 (lvL i) [] hp') : K 18 (lvL i) [] hp := by
  refine hK [(168, [0, 1, 2, 3]), (191, [0, 1, 2, 3]), (214, [0, 1, 2, 3]), (237, [0, 1, 2, 3]), (250, [0, 1, 2, 3]), (273, [0, 1, 2, 3]), (286, [0, 1, 2, 3]), (309, [0, 1, 2, 3]), (332, [0, 1, 2, 3]), (375, [0, 1, 2, 3]), (408, [0, 1, 2, 3]), (421, [0, 1, 2, 3]), (434, [0, 1, 2, 3]), (447, [0, 1, 2, 3]), (470, [0, 1, 2, 3]), (493, [0, 1, 2, 3]), (516, [0, 1, 2, 3]), (559, [0, 1, 2, 3]), (582, [0, 1, 2, 3]), (595, [0, 1, 2, 3]), (618, [0, 1, 2, 3]), (642, [0, 1, 2, 3]), (676, [0, 1, 2, 3]), (709, [0, 1, 2, 3]), (722, [0, 1, 2, 3]), (745, [0, 1, 2, 3]), (788, [0, 1, 2, 3]), (811, [0, 1, 2, 3]), (845, [0, 1, 2, 3]), (889, [0, 1, 2, 3]), (912, [0, 1, 2, 3])] 40 18 _ _ _ ?_
  refine And.intro (fun q => And.intro (Or.inr rfl) rfl) (fun q => ?_)
  have h4 : 4 * i + 4 ≤ sL := law_left hs hi q
  have go := go h4
  have h0 : vp_in (nI (4 * i)) sL := vp_in_nI (by omega) (by omega)
  have h1 : vp_in (nI (4 * i) + 1) sL := vp_off h4 hs 1 (by omega)
  have h2 : vp_in (nI (4 * i) + 2) sL := vp_off h4 hs 2 (by omega)
  have h3 : vp_in (nI (4 * i) + 3) sL := vp_off h4 hs 3 (by omega)
  refine And.intro h0 ?_
  exact And.intro (And.intro (fun _ => lc_bead hK h1 h2 h3 hX go) (And.intro (fun _ => lc_beads hK h1 h2 h3 hX go) (And.intro (fun _ => lc_count hK h1 h2 h3 hX go) (And.intro (fun _ => lc_least hK h1 h2 h3 hX go) (And.intro (fun _ => lc_cut hK h1 h2 h3 hX go) (And.intro (fun _ => lc_rows hK h1 h2 h3 hX go) (And.intro (fun _ => lc_halves hK h1 h2 h3 hX go) (And.intro (fun _ => lc_net hK h1 h2 h3 hX go) (And.intro (fun _ => lc_mark hK h1 h2 h3 hX go) (And.intro (fun _ => lc_marked hK h1 h2 h3 hX go) (And.intro (fun _ => lc_all hK h1 h2 h3 hX go) (And.intro (fun _ => lc_doors hK h1 h2 h3 hX go) (And.intro (fun _ => lc_doorsAll hK h1 h2 h3 hX go) (And.intro (fun _ => lc_walk hK h1 h2 h3 hX go) (And.intro (fun _ => lc_ended hK h1 h2 h3 hX go) (And.intro (fun _ => lc_people hK h1 h2 h3 hX go) (And.intro (fun _ => lc_room hK h1 h2 h3 hX go) (And.intro (fun _ => lc_rent hK h1 h2 h3 hX go) (And.intro (fun _ => lc_best hK h1 h2 h3 hX go) (And.intro (fun _ => lc_has hK h1 h2 h3 hX go) (And.intro (fun _ => lc_price hK h1 h2 h3 hX go) (And.intro (fun _ => lc_grudge hK h1 h2 h3 hX go) (And.intro (fun _ => lc_turned hK h1 h2 h3 hX go) (And.intro (fun _ => lc_check hK h1 h2 h3 hX go) (And.intro (fun _ => lc_line hK h1 h2 h3 hX go) (And.intro (fun _ => lc_stretch hK h1 h2 h3 hX go) (And.intro (fun _ => lc_who hK h1 h2 h3 hX go) (And.intro (fun _ => lc_place hK h1 h2 h3 hX go) (And.intro (fun _ => lc_worth hK h1 h2 h3 hX go) (And.intro (fun _ => lc_envies hK h1 h2 h3 hX go) (trivial))))))))))))))))))))))))))))))) (fun _ => go _ hX)
theorem law_loop {sL : Nat} {xs : Nat → Int32} {l : Launch} {K : Nat → xL → List xV → xH → Prop} (hK : YR sL xs l mtL kLaw rt1 K) (hs : sL ≤ 2048) : ∀ (f i : Nat), sL < 4 * i + 4 * f → 4 * i < 4096 → ∀ hp, LX hp → K 18 (lvL i) [] hp
  | 0, i, hf, hi, hp, hX => law_case hK hs hi hX (fun h4 => by omega)
  | f + 1, i, hf, hi, hp, hX => law_case hK hs hi hX (fun h4 hp' hX' => law_next hK (law_loop hK hs f (i + 1) (by omega) (by omega) hp' hX'))
