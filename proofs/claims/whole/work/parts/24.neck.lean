/-! ===== the class Necklace: its small methods ===== -/
abbrev nkO (bd se fw rc : Int32) : Nat × xC := (1, .inr (1, [.inr (2, 0), .inr (3, 0), .inr (4, 0), .inr (5, 0), vI bd, vI se, vI fw, vI rc]))
abbrev nkH (ah en ow fr : Nat → Int32) (bd se fw rc : Int32) : xH := [nkO bd se fw rc, (2, .inl (0, 25, 0, .inl ah)), (3, .inl (0, 26, 0, .inl en)), (4, .inl (0, 26, 0, .inl ow)), (5, .inl (0, 24, 0, .inl fr))]
/-- the beads as the class holds them -/
def NB (bs : Nat → Nat) (n : Nat) (ah : Nat → Int32) (bd : Int32) : Prop := n ≤ 24 ∧ (∀ k, k < n → bs k < 4) ∧ bd = nI n ∧ ∀ j, j ≤ n → ah j = nI (pkc bs j)
def NS (bs : Nat → Nat) (n : Nat) (fr : Nat → Int32) (fw rc : Int32) : Prop := 2 ≤ n ∧ fw = nI (nFew bs n) ∧ rc = nI (nRowsL bs n (nFew bs n)).length ∧ ∀ (cs : List Nat) (t : List (List Nat)), nRowsL bs n (nFew bs n) = cs :: t → ∀ i, i < nFew bs n → fr i = nI (cs.getD i 0)
def NH (bs : Nat → Nat) (n : Nat) (h : xH) : Prop := ∃ (ah en ow fr : Nat → Int32) (bd se fw rc : Int32), h = nkH ah en ow fr bd se fw rc ∧ NB bs n ah bd ∧ ow 0 = 0 ∧ ow 1 = 0 ∧ (se = 0 ∨ (se = 1 ∧ NS bs n fr fw rc))
theorem c_isSort (l : Launch) (k : Int32) : Ev l zX1_isSort [vI k] [] (fun r h => r = some (vI (b2i (decide (0 ≤ k.toInt ∧ k.toInt < 4)))) ∧ h = []) := by
  refine ev_run okX1_isSort (by decide +kernel) (Nat.le_of_ble_eq_true rfl) 50 ?_
  refine And.intro (fun h1 => ?_) (fun h1 => And.intro (fun h2 => ?_) (fun h2 => ?_))
  · refine And.intro (Or.inl rfl) ⟨⟨?_, rfl⟩, rfl⟩
    have h1 : k.toInt < 0 := lt_T.mp h1
    rw [decide_eq_false (by omega)]
    rfl
  · refine And.intro (Or.inl rfl) ⟨⟨?_, rfl⟩, rfl⟩
    have h2 : 4 ≤ k.toInt := le_T.mp h2
    rw [decide_eq_false (by omega)]
    rfl
  · refine And.intro (Or.inr rfl) ⟨⟨?_, rfl⟩, rfl⟩
    have h1 : ¬ k.toInt < 0 := fun q => h1 (lt_T.mpr q)
    have h2 : ¬ 4 ≤ k.toInt := fun q => h2 (le_T.mpr q)
    rw [decide_eq_true (by omega)]
    rfl
/-- is there such a sort, is there room -/
def okBead (n : Nat) (k : Int32) : Bool := decide (0 ≤ k.toInt ∧ k.toInt < 4) && decide (n < 24)
def sBead (bs : Nat → Nat) (n : Nat) (k : Int32) : Nat → Nat := if okBead n k = true then upN bs n k.toInt.toNat else bs
def mBead (n : Nat) (k : Int32) : Nat := if okBead n k = true then n + 1 else n
def qBead (n : Nat) (k : Int32) : Int32 := if okBead n k = true then nI (n + 1) else -1
theorem c_string (l : Launch) (bs : Nat → Nat) (n : Nat) (h : xH) (hN : NH bs n h) (k : Int32) : Ev l zX1_string [.inr (1, 0), vI k] h (fun r h' => r = some (vI (qBead n k)) ∧ NH (sBead bs n k) (mBead n k) h') := by
  obtain ⟨ah, en, ow, fr, bd, se, fw, rc, rfl, ⟨hn, hs, rfl, hah⟩, ho0, ho1, hse⟩ := hN
  refine ev_run okX1_string (by decide +kernel) (Nat.le_of_ble_eq_true rfl) 100 ?_
  refine ⟨[], _, c_isSort l k, fun r hc' hP _ => ?_⟩
  obtain ⟨rfl, rfl⟩ := hP
  have hbad : okBead n k = false → NH (sBead bs n k) (mBead n k) (nkH ah en ow fr (nI n) se fw rc) := fun q => by
    have e1 : sBead bs n k = bs := by unfold sBead; rw [q]; rfl
    have e2 : mBead n k = n := by unfold mBead; rw [q]; rfl
    rw [e1, e2]
    exact ⟨ah, en, ow, fr, nI n, se, fw, rc, rfl, ⟨hn, hs, rfl, hah⟩, ho0, ho1, hse⟩
  refine And.intro (fun h1 => ?_) (fun h1 => And.intro (fun h2 => ?_) (fun h2 => ?_))
  · have q : okBead n k = false := by unfold okBead; rw [b2i0 h1]; rfl
    refine And.intro ⟨?_, hbad q⟩ rfl
    unfold qBead
    rw [q]
    rfl
  · have hk := b2i1 h1
    rw [decide_eq_true_eq] at hk
    have h2 : nI n < nI 24 := h2
    rw [nI_ltI (by omega) (by omega)] at h2
    have q : okBead n k = true := by unfold okBead; rw [decide_eq_true hk, decide_eq_true h2]; rfl
    obtain ⟨j, hj, rfl, hjt⟩ := nI_arg hk.1
    have hj4 : j < 4 := by omega
    refine And.intro (vp_in_nI (by omega) (by omega)) ?_
    refine And.intro (by show vp_in (nI n + 1) 25; rw [nI_1]; exact vp_in_nI (by omega) (by omega)) ?_
    refine And.intro (Or.inl rfl) ?_
    refine And.intro ⟨?_, ?_⟩ rfl
    · unfold qBead
      rw [q]
      show some (vI (nI n + 1)) = _
      rw [nI_1]
      rfl
    · have e1 : sBead bs n (nI j) = upN bs n j := by
        unfold sBead
        rw [q, if_pos rfl, hjt]
        rfl
      have e2 : mBead n (nI j) = n + 1 := by unfold mBead; rw [q]; rfl
      rw [e1, e2]
      refine ⟨upd ah (nI n + 1).toNatClampNeg (ah (nI n).toNatClampNeg + ((1 : Int32) <<< ((8 * nI j) &&& 31))), en, ow, fr, nI n + 1, 0, fw, rc, rfl, ⟨by omega, fun k hk => ?_, nI_1 n, fun i hi => ?_⟩, ho0, ho1, Or.inl rfl⟩
      · by_cases hkn : k = n
        · rw [hkn, upN_self]; exact hj4
        · rw [upN_ne bs j hkn]; exact hs k (by omega)
      · rw [nI_1, nI_clamp (show n + 1 < 2 ^ 31 by omega), nI_clamp (show n < 2 ^ 31 by omega), shl8 j hj4]
        by_cases hin : i = n + 1
        · subst hin
          rw [pk_us, hah n (Nat.le_refl n), nI_add, pkc_succ _ n (by rw [upN_self]; exact hj4), upN_self, pkc_congr (bs' := bs) (fun k hk => upN_ne bs j (by omega))]
        · rw [pk_un hin, hah i (by omega), pkc_congr (bs' := upN bs n j) (fun k hk => (upN_ne bs j (by omega)).symm)]
  · have hk := b2i1 h1
    have h2 : ¬ nI n < nI 24 := h2
    rw [nI_ltI (by omega) (by omega)] at h2
    have q : okBead n k = false := by unfold okBead; rw [decide_eq_false h2, Bool.and_false]
    refine And.intro ⟨?_, hbad q⟩ rfl
    unfold qBead
    rw [q]
    rfl
def okBeads (n : Nat) (k : Int32) : Bool := decide (0 ≤ k.toInt) && decide (k.toInt ≤ (n : Int))
def mBeads (n : Nat) (k : Int32) : Nat := if okBeads n k = true then k.toInt.toNat else n
theorem c_shorten (l : Launch) (bs : Nat → Nat) (n : Nat) (h : xH) (hN : NH bs n h) (k : Int32) : Ev l zX1_shorten [.inr (1, 0), vI k] h (fun r h' => r = some (vI (b2i (okBeads n k))) ∧ NH bs (mBeads n k) h') := by
  obtain ⟨ah, en, ow, fr, bd, se, fw, rc, rfl, ⟨hn, hs, rfl, hah⟩, ho0, ho1, hse⟩ := hN
  refine ev_run okX1_shorten (by decide +kernel) (Nat.le_of_ble_eq_true rfl) 100 ?_
  have hbad : okBeads n k = false → NH bs (mBeads n k) (nkH ah en ow fr (nI n) se fw rc) := fun q => by
    have e2 : mBeads n k = n := by unfold mBeads; rw [q]; rfl
    rw [e2]
    exact ⟨ah, en, ow, fr, nI n, se, fw, rc, rfl, ⟨hn, hs, rfl, hah⟩, ho0, ho1, hse⟩
  have hT : (nI n).toInt = (n : Int) := nI_toInt (by omega)
  refine And.intro (fun h1 => ?_) (fun h1 => And.intro (fun h2 => ?_) (fun h2 => ?_))
  · have h1 : k.toInt < 0 := lt_T.mp h1
    have q : okBeads n k = false := by unfold okBeads; rw [decide_eq_false (by omega)]; rfl
    refine And.intro (Or.inl rfl) (And.intro ⟨?_, hbad q⟩ rfl)
    rw [q]
    rfl
  · have h1 : ¬ k.toInt < 0 := fun q => h1 (lt_T.mpr q)
    have h2 := le_T.mp h2
    rw [hT] at h2
    have q : okBeads n k = true := by unfold okBeads; rw [decide_eq_true (by omega), decide_eq_true h2]; rfl
    obtain ⟨j, hj, rfl, hjt⟩ := nI_arg (x := k) (by omega)
    refine And.intro (Or.inl rfl) (And.intro (Or.inr rfl) (And.intro ⟨?_, ?_⟩ rfl))
    · rw [q]; rfl
    · have e2 : mBeads n (nI j) = j := by unfold mBeads; rw [q, if_pos rfl, hjt]; rfl
      rw [e2]
      exact ⟨ah, en, ow, fr, nI j, 0, fw, rc, rfl, ⟨by omega, fun k hk => hs k (by omega), rfl, fun i hi => hah i (by omega)⟩, ho0, ho1, Or.inl rfl⟩
  · have h1 : ¬ k.toInt < 0 := fun q => h1 (lt_T.mpr q)
    have h2 : ¬ k.toInt ≤ (n : Int) := fun q => h2 (le_T.mpr (by rw [hT]; exact q))
    have q : okBeads n k = false := by unfold okBeads; rw [decide_eq_false h2, Bool.and_false]
    refine And.intro (Or.inl rfl) (And.intro ⟨?_, hbad q⟩ rfl)
    rw [q]
    rfl
def qCount (bs : Nat → Nat) (n : Nat) (k : Int32) : Int32 := if 0 ≤ k.toInt ∧ k.toInt < 4 then nI (cB bs k.toInt.toNat n) else -1
theorem pk4_lane (bs : Nat → Nat) (n : Nat) (hn : n ≤ 24) : ∀ j : Nat, j < 4 → pkc bs n / 2 ^ (8 * j) % 256 = cB bs j n := by
  intro j hj
  have h0 := cB_le bs 0 n
  have h1 := cB_le bs 1 n
  have h2 := cB_le bs 2 n
  have h3 := cB_le bs 3 n
  unfold pkc pk4
  rcases (by omega : j = 0 ∨ j = 1 ∨ j = 2 ∨ j = 3) with rfl | rfl | rfl | rfl
  · show _ / 1 % 256 = _; omega
  · show _ / 256 % 256 = _; omega
  · show _ / 65536 % 256 = _; omega
  · show _ / 16777216 % 256 = _; omega
theorem pkc_lt (bs : Nat → Nat) {n : Nat} (hn : n ≤ 24) : pkc bs n < 2 ^ 31 := by
  have h0 := cB_le bs 0 n
  have h1 := cB_le bs 1 n
  have h2 := cB_le bs 2 n
  have h3 := cB_le bs 3 n
  unfold pkc
  exact pk4_lt31 (by omega) (by omega) (by omega) (by omega)
theorem ush8 : ∀ k : Nat, k < 4 → (((8 * nI k).toUInt32 &&& Int32.toUInt32 31).toBitVec % 32).toNat = 8 * k := by decide +kernel
theorem c_countOf (l : Launch) (bs : Nat → Nat) (n : Nat) (h : xH) (hN : NH bs n h) (k : Int32) : Ev l zX1_countOf [.inr (1, 0), vI k] h (fun r h' => r = some (vI (qCount bs n k)) ∧ h' = h) := by
  obtain ⟨ah, en, ow, fr, bd, se, fw, rc, rfl, ⟨hn, hs, rfl, hah⟩, ho0, ho1, hse⟩ := hN
  refine ev_run okX1_countOf (by decide +kernel) (Nat.le_of_ble_eq_true rfl) 100 ?_
  refine ⟨[], _, c_isSort l k, fun r hc' hP _ => ?_⟩
  obtain ⟨rfl, rfl⟩ := hP
  refine And.intro (fun h1 => ?_) (fun h1 => ?_)
  · have hk := b2i0 h1
    rw [decide_eq_false_iff_not] at hk
    refine And.intro ⟨?_, rfl⟩ rfl
    unfold qCount
    rw [if_neg hk]
  · have hk := b2i1 h1
    rw [decide_eq_true_eq] at hk
    obtain ⟨j, hj, rfl, hjt⟩ := nI_arg hk.1
    have hj4 : j < 4 := by omega
    refine And.intro (vp_in_nI (by omega) (by omega)) ?_
    refine And.intro ⟨?_, rfl⟩ rfl
    unfold qCount
    rw [if_pos hk, hjt]
    show some (vI (((ah (nI n).toNatClampNeg).toUInt32 >>> ((8 * nI j).toUInt32 &&& Int32.toUInt32 31)).toInt32 &&& 255)) = _
    rw [nI_clamp (by omega), hah n (Nat.le_refl n), pk_ushrN (by have := pkc_lt bs hn; omega) (8 * nI j) (8 * j) (ush8 j hj4), show (255 : Int32) = nI 255 from rfl, nx_and]
    have e : pkc bs n / 2 ^ (8 * j) &&& 255 = pkc bs n / 2 ^ (8 * j) % 256 := Nat.and_two_pow_sub_one_eq_mod _ 8
    rw [e, pk4_lane bs n hn j hj4]
    rfl
theorem c_within (l : Launch) (bs : Nat → Nat) (n : Nat) (ah en ow fr : Nat → Int32) (bd se fw rc : Int32) (hB : NB bs n ah bd) (d : Nat → Nat) (hd : ∀ s, s < 4 → d s ≤ 24) (x : Int32) (hx : x = nI (pk4 (d 0) (d 1) (d 2) (d 3))) :
    Ev l zX1_isWithinHalf [.inr (1, 0), vI x] (nkH ah en ow fr bd se fw rc) (fun r h' => (∃ b : Bool, r = some (vI (b2i b)) ∧ (b = true ↔ nIn bs n d)) ∧ h' = nkH ah en ow fr bd se fw rc) := by
  obtain ⟨hn, hs, rfl, hah⟩ := hB
  have g : ∀ s, cB bs s n ≤ 24 := fun s => Nat.le_trans (cB_le bs s n) hn
  have test := pk4_test (h0 := (cB bs 0 n + 1) / 2) (h1 := (cB bs 1 n + 1) / 2) (h2 := (cB bs 2 n + 1) / 2) (h3 := (cB bs 3 n + 1) / 2) (d0 := d 0) (d1 := d 1) (d2 := d 2) (d3 := d 3) (by have := g 0; omega) (by have := g 1; omega) (by have := g 2; omega) (by have := g 3; omega) (hd 0 (by omega)) (hd 1 (by omega)) (hd 2 (by omega)) (hd 3 (by omega))
  have hin : nIn bs n d ↔ (d 0 ≤ (cB bs 0 n + 1) / 2 ∧ d 1 ≤ (cB bs 1 n + 1) / 2 ∧ d 2 ≤ (cB bs 2 n + 1) / 2 ∧ d 3 ≤ (cB bs 3 n + 1) / 2) := by
    constructor
    · intro h
      exact ⟨h 0 (by omega), h 1 (by omega), h 2 (by omega), h 3 (by omega)⟩
    · rintro ⟨h0, h1, h2, h3⟩ s hs4
      rcases (by omega : s = 0 ∨ s = 1 ∨ s = 2 ∨ s = 3) with rfl | rfl | rfl | rfl
      · exact h0
      · exact h1
      · exact h2
      · exact h3
  have half : (((ah (nI n).toNatClampNeg + 16843009).toUInt32 >>> ((1 : Int32).toUInt32 &&& Int32.toUInt32 31)).toInt32 &&& 2139062143) = nI (pk4 ((cB bs 0 n + 1) / 2) ((cB bs 1 n + 1) / 2) ((cB bs 2 n + 1) / 2) ((cB bs 3 n + 1) / 2)) := by
    have hlt := pkc_lt bs hn
    rw [nI_clamp (by omega), hah n (Nat.le_refl n), show (16843009 : Int32) = nI 16843009 from rfl, nI_add, pk_ushrN (by omega) 1 1 (by decide), show (2139062143 : Int32) = nI 2139062143 from rfl, nx_and]
    congr 1
    exact pk4_half (g 0) (g 1) (g 2) (g 3)
  refine ev_run okX1_isWithinHalf (by decide +kernel) (Nat.le_of_ble_eq_true rfl) 100 ?_
  refine And.intro (vp_in_nI (by omega) (by omega)) ?_
  refine And.intro (fun h1 => ?_) (fun h1 => ?_)
  · refine And.intro (Or.inl rfl) (And.intro ⟨⟨false, rfl, ⟨fun q => (by cases q), fun q => ?_⟩⟩, rfl⟩ rfl)
    exact absurd (show ((((ah (nI n).toNatClampNeg + 16843009).toUInt32 >>> ((1 : Int32).toUInt32 &&& Int32.toUInt32 31)).toInt32 &&& 2139062143 ||| (-2139062144)) - x) &&& (-2139062144) = -2139062144 by rw [half, hx]; exact test.mpr (hin.mp q)) h1
  · refine And.intro (Or.inr rfl) (And.intro ⟨⟨true, rfl, ⟨fun _ => ?_, fun _ => rfl⟩⟩, rfl⟩ rfl)
    have h1 : ((((ah (nI n).toNatClampNeg + 16843009).toUInt32 >>> ((1 : Int32).toUInt32 &&& Int32.toUInt32 31)).toInt32 &&& 2139062143 ||| (-2139062144)) - x) &&& (-2139062144) = -2139062144 := h1
    rw [half, hx] at h1
    exact hin.mpr (test.mp h1)
