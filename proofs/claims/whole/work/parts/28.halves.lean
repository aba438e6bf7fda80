/-! ===== halvedBy ===== -/
abbrev uN (x : Int32) : Nat := x.toBitVec.toNat
def okMask (n : Nat) (x : Int32) : Bool := decide (uN x % 2 = 0 ∧ uN x < 2 ^ n)
def cbit (X : Nat) (k : Nat) : Bool := decide (X / 2 ^ k % 2 = 1)
def qHalves (bs : Nat → Nat) (n : Nat) (x : Int32) : Int32 := if 2 ≤ n ∧ okMask n x = true then b2i (nHal bs n (cbit (uN x))) else -1
theorem uN_lt (x : Int32) : uN x < 2 ^ 32 := x.toBitVec.isLt
theorem nI_uN (x : Int32) : nI (uN x) = x := by
  apply Int32.toBitVec_inj.mp
  apply BitVec.eq_of_toNat_eq
  rw [pk_tn (uN_lt x)]
theorem place_bits : ∀ n : Nat, n < 25 → 1 ≤ n → ∀ i : Nat, i < 32 → ((((1 : Int32) <<< (nI n &&& 31)) - 2) ^^^ (-1)).toBitVec.getLsbD i = !(decide (1 ≤ i ∧ i < n)) := by decide +kernel
theorem bits_iff {x : Int32} {n : Nat} : (∀ i, i < 32 → x.toBitVec.getLsbD i = true → 1 ≤ i ∧ i < n) ↔ (uN x % 2 = 0 ∧ uN x < 2 ^ n) := by
  have tb : ∀ i, (uN x).testBit i = x.toBitVec.getLsbD i := fun i => BitVec.testBit_toNat x.toBitVec
  constructor
  · intro h
    constructor
    · have h0 : (uN x).testBit 0 = false := by
        cases hq : (uN x).testBit 0 with
        | false => rfl
        | true =>
          have := (h 0 (by omega) (by rw [← tb]; exact hq)).1
          omega
      rw [Nat.testBit_zero] at h0
      have := of_decide_eq_false h0
      omega
    · apply Nat.lt_pow_two_of_testBit
      intro i hi
      cases hq : (uN x).testBit i with
      | false => rfl
      | true =>
        by_cases h32 : i < 32
        · have := (h i h32 (by rw [← tb]; exact hq)).2
          omega
        · have h1 : uN x < 2 ^ i := Nat.lt_of_lt_of_le (uN_lt x) (Nat.pow_le_pow_right (by omega) (by omega))
          rw [Nat.testBit_lt_two_pow h1] at hq
          cases hq
  · rintro ⟨h0, hn⟩ i hi hb
    rw [← tb] at hb
    constructor
    · apply Classical.byContradiction
      intro q
      have : i = 0 := by omega
      subst this
      rw [Nat.testBit_zero] at hb
      have := of_decide_eq_true hb
      omega
    · apply Classical.byContradiction
      intro q
      have h1 : uN x < 2 ^ i := Nat.lt_of_lt_of_le hn (Nat.pow_le_pow_right (by omega) (by omega))
      rw [Nat.testBit_lt_two_pow h1] at hb
      cases hb
theorem mask_iff {x : Int32} {n : Nat} (h1 : 1 ≤ n) (hn : n < 25) : (x &&& ((((1 : Int32) <<< (nI n &&& 31)) - 2) ^^^ (-1)) = 0) ↔ (uN x % 2 = 0 ∧ uN x < 2 ^ n) := by
  rw [← bits_iff]
  constructor
  · intro h i hi hb
    have h2 : (x &&& ((((1 : Int32) <<< (nI n &&& 31)) - 2) ^^^ (-1))).toBitVec.getLsbD i = (0 : Int32).toBitVec.getLsbD i := by rw [h]
    rw [Int32.toBitVec_and, BitVec.getLsbD_and, place_bits n hn h1 i hi, hb] at h2
    simp at h2
    apply Classical.byContradiction
    intro q
    have := h2
    omega
  · intro h
    apply Int32.toBitVec_inj.mp
    apply BitVec.eq_of_getLsbD_eq
    intro i hi
    rw [Int32.toBitVec_and, BitVec.getLsbD_and, place_bits n hn h1 i hi]
    cases hb : x.toBitVec.getLsbD i with
    | false => simp
    | true =>
      rw [decide_eq_true (h i hi hb)]
      simp
theorem ush_n : ∀ k : Nat, k < 32 → (((nI k).toUInt32 &&& Int32.toUInt32 31).toBitVec % 32).toNat = k := by decide +kernel
theorem bit_ush {x : Int32} {k : Nat} (hk : k < 32) : ((x.toUInt32 >>> ((nI k).toUInt32 &&& Int32.toUInt32 31)).toInt32 &&& 1) = nI (uN x / 2 ^ k % 2) := by
  have h := pk_ushrN (uN_lt x) (nI k) k (ush_n k hk)
  rw [nI_uN] at h
  rw [h, show (1 : Int32) = nI 1 from rfl, nx_and]
  congr 1
  exact Nat.and_two_pow_sub_one_eq_mod _ 1
theorem nHal_cnt {bs : Nat → Nat} {n : Nat} {c : Nat → Bool} : nHal bs n c = true ↔ (nIn bs n (fun s => nCnt bs c s false n) ∧ nIn bs n (fun s => nCnt bs c s true n)) := by
  rw [nHal_iff]
  constructor
  · intro h
    refine ⟨fun s hs => ?_, fun s hs => ?_⟩
    · have h1 := h s hs
      have h2 := nCnt_sum bs c s n
      show nCnt bs c s false n ≤ _
      omega
    · have h1 := h s hs
      have h2 := nCnt_sum bs c s n
      show nCnt bs c s true n ≤ _
      omega
  · rintro ⟨h1, h2⟩ s hs
    have a1 : nCnt bs c s false n ≤ _ := h1 s hs
    have a2 : nCnt bs c s true n ≤ _ := h2 s hs
    have h4 := nCnt_sum bs c s n
    omega
abbrev pkN (bs : Nat → Nat) (c : Nat → Bool) (b : Bool) (k : Nat) : Nat := pk4 (nCnt bs c 0 b k) (nCnt bs c 1 b k) (nCnt bs c 2 b k) (nCnt bs c 3 b k)
theorem nCnt_succ (bs : Nat → Nat) (c : Nat → Bool) (s : Nat) (b : Bool) (k : Nat) : nCnt bs c s b (k + 1) = nCnt bs c s b k + cond (decide (bs k = s) && (nPar c k == b)) 1 0 := rfl
theorem pkN_succ (bs : Nat → Nat) (c : Nat → Bool) (b : Bool) {k : Nat} (h : bs k < 4) : pkN bs c b (k + 1) = pkN bs c b k + cond (nPar c k == b) (256 ^ (bs k)) 0 := by
  unfold pkN pk4
  simp only [nCnt_succ]
  cases (nPar c k == b) with
  | false => simp
  | true => rcases (by omega : bs k = 0 ∨ bs k = 1 ∨ bs k = 2 ∨ bs k = 3) with e | e | e | e <;> simp [e] <;> omega
theorem nCnt_le (bs : Nat → Nat) (c : Nat → Bool) (s : Nat) (b : Bool) (k : Nat) : nCnt bs c s b k ≤ k := cntP_le _ k
theorem pkN_sum (bs : Nat → Nat) (c : Nat → Bool) (n : Nat) : pkN bs c false n + pkN bs c true n = pkc bs n := by
  unfold pkN pkc pk4
  have h0 := nCnt_sum bs c 0 n
  have h1 := nCnt_sum bs c 1 n
  have h2 := nCnt_sum bs c 2 n
  have h3 := nCnt_sum bs c 3 n
  omega
theorem nPar_step (c : Nat → Bool) {k : Nat} (h0 : c 0 = false) : nPar c k = xor (nPar c (k - 1)) (c k) := by
  cases k with
  | zero => rw [h0]; rfl
  | succ k => rfl
theorem c_halvedBy (l : Launch) (bs : Nat → Nat) (n : Nat) (h : xH) (hN : NH bs n h) (x : Int32) : Ev l zX1_halvedBy [.inr (1, 0), vI x] h (fun r h' => r = some (vI (qHalves bs n x)) ∧ h' = h) := by
  obtain ⟨ah, en, ow, fr, bd, se, fw, rc, rfl, hB, ho0, ho1, hse⟩ := hN
  obtain ⟨hn, hs, rfl, hah⟩ := id hB
  refine ev_all okX1_halvedBy (by decide +kernel) (Nat.le_of_ble_eq_true rfl) ?_
  intro K hK
  refine hK [(35, [0, 1, 3, 4, 5])] 60 0 _ _ _ ?_
  refine And.intro (fun h1 => ?_) (fun h1 => ?_)
  · have h1 : nI n < nI 2 := h1
    rw [nI_ltI (by omega) (by omega)] at h1
    refine And.intro ⟨?_, rfl⟩ rfl
    unfold qHalves
    rw [if_neg (by omega)]
  · have h1 : ¬ nI n < nI 2 := h1
    rw [nI_ltI (by omega) (by omega)] at h1
    have hm := mask_iff (x := x) (n := n) (by omega) (by omega)
    refine And.intro (fun h2 => ?_) (fun h2 => ?_)
    · have hok := hm.mp h2
      generalize hX : uN x = X at hok
      have hc0 : cbit X 0 = false := by
        unfold cbit
        rw [decide_eq_false]
        show ¬ X / 1 % 2 = 1
        omega
      have loop : ∀ (d k : Nat), k + d = n → ∀ (f t y : Int32), f = nI (pkN bs (cbit X) false k) → t = b2i (!(nPar (cbit X) (k - 1))) → y = nI k → K 35 [(0, .inr (1, 0)), (1, vI x), (3, vI f), (4, vI t), (5, vI y)] [] (nkH ah en ow fr (nI n) se fw rc) := by
        intro d
        induction d with
        | zero =>
          intro k hk f t y hf ht hy
          have hk : k = n := hk
          subst hk
          subst hy
          have g24 : ∀ b s, s < 4 → nCnt bs (cbit X) s b k ≤ 24 := fun b s _ => Nat.le_trans (nCnt_le bs (cbit X) s b k) hn
          refine hK [] 60 35 _ _ _ ?_
          refine And.intro (fun _ => ?_) (fun q => absurd (Int32.le_refl _) q)
          refine ⟨[1, 2, 3, 4, 5], _, c_within l bs k ah en ow fr (nI k) se fw rc hB (fun s => nCnt bs (cbit X) s false k) (g24 false) _ hf, fun r hc' hP _ => ?_⟩
          obtain ⟨⟨b, rfl, hb⟩, rfl⟩ := hP
          refine And.intro (fun h3 => ?_) (fun h3 => ?_)
          · refine And.intro ⟨?_, rfl⟩ rfl
            unfold qHalves
            rw [if_pos ⟨by omega, by unfold okMask; rw [hX]; exact decide_eq_true hok⟩, hX]
            have : nHal bs k (cbit X) = false := by
              cases hq : nHal bs k (cbit X) with
              | false => rfl
              | true =>
                have := hb.mpr (nHal_cnt.mp hq).1
                rw [b2i0 h3] at this
                cases this
            rw [this]
            rfl
          · have hb1 := hb.mp (b2i1 h3)
            refine And.intro (vp_in_nI (by omega) (by omega)) ?_
            refine ⟨[1, 2, 3, 4, 5], _, c_within l bs k ah en ow fr (nI k) se fw rc hB (fun s => nCnt bs (cbit X) s true k) (g24 true) _ (by
              show ah (nI k).toNatClampNeg - f = _
              rw [nI_clamp (by omega), hah k (Nat.le_refl k), hf, ← pkN_sum bs (cbit X) k, pk_sub (by omega), Nat.add_sub_cancel_left]), fun r hc' hP _ => ?_⟩
            obtain ⟨⟨b2, rfl, hb2⟩, rfl⟩ := hP
            have hq : qHalves bs k x = b2i b2 := by
              unfold qHalves
              rw [if_pos ⟨by omega, by unfold okMask; rw [hX]; exact decide_eq_true hok⟩, hX]
              congr 1
              rw [Bool.eq_iff_iff, nHal_cnt, hb2]
              exact ⟨fun q => q.2, fun q => ⟨hb1, q⟩⟩
            refine And.intro (fun h4 => ?_) (fun h4 => ?_)
            · refine And.intro ⟨?_, rfl⟩ rfl
              rw [hq, b2i0 h4]
              rfl
            · refine And.intro ⟨?_, rfl⟩ rfl
              rw [hq, b2i1 h4]
              rfl
        | succ d ih =>
          intro k hk f t y hf ht hy
          subst hy
          have hb : bs k < 4 := hs k (by omega)
          have hbit : (x_ib 3 (x_ib 8 x (nI k)) 1) = nI (X / 2 ^ k % 2) := by
            rw [← hX]
            exact bit_ush (by omega)
          have hadd : ah (nI k + 1).toNatClampNeg - ah (nI k).toNatClampNeg = nI (256 ^ bs k) := by
            rw [nI_1, nI_clamp (by omega), nI_clamp (by omega), hah (k + 1) (by omega), hah k (by omega), pkc_succ bs k hb, pk_sub (Nat.le_add_right _ _), Nat.add_sub_cancel_left]
          refine hK [(35, [0, 1, 3, 4, 5]), (66, [0, 1, 3, 4, 5])] 60 35 _ _ _ ?_
          have at66 : ∀ t' : Int32, t' = b2i (!(nPar (cbit X) k)) → K 66 [(0, .inr (1, 0)), (1, vI x), (3, vI f), (4, vI t'), (5, vI (nI k))] [] (nkH ah en ow fr (nI n) se fw rc) := by
            intro t' ht'
            refine hK [(35, [0, 1, 3, 4, 5])] 60 66 _ _ _ ?_
            refine And.intro (fun h3 => ?_) (fun h3 => ?_)
            · have hp : (!(nPar (cbit X) k)) = false := b2i0 (by rw [← ht']; exact h3)
              refine ih (k + 1) (by omega) f t' _ ?_ (by rw [Nat.add_sub_cancel]; exact ht') (nI_1 k)
              rw [hf, pkN_succ bs (cbit X) false hb]
              have : nPar (cbit X) k = true := by simpa using hp
              rw [this]
              rfl
            · have hp : (!(nPar (cbit X) k)) = true := b2i1 (by rw [← ht']; exact h3)
              refine And.intro (by show vp_in (nI k + 1) 25; rw [nI_1]; exact vp_in_nI (by omega) (by omega)) ?_
              refine And.intro (vp_in_nI (by omega) (by omega)) ?_
              refine ih (k + 1) (by omega) _ t' _ ?_ (by rw [Nat.add_sub_cancel]; exact ht') (nI_1 k)
              show f + (ah (nI k + 1).toNatClampNeg - ah (nI k).toNatClampNeg) = _
              rw [hadd, hf, pkN_succ bs (cbit X) false hb, nI_add]
              have : nPar (cbit X) k = false := by simpa using hp
              rw [this]
              rfl
          refine And.intro (fun q => absurd q (nI_ge (by omega) (by omega))) (fun _ => ?_)
          have hst := nPar_step (cbit X) (k := k) hc0
          refine And.intro (fun h3 => ?_) (fun h3 => ?_)
          · -- no cut
            have h3 : ¬ nI (X / 2 ^ k % 2) = nI 1 := fun q => h3 (hbit.trans q)
            rw [nI_eq (by omega) (by omega)] at h3
            refine at66 t ?_
            rw [ht, hst]
            have : cbit X k = false := decide_eq_false h3
            rw [this, Bool.xor_false]
          · have h3 : nI (X / 2 ^ k % 2) = nI 1 := hbit.symm.trans h3
            rw [nI_eq (by omega) (by omega)] at h3
            have hck : cbit X k = true := decide_eq_true h3
            rw [hck, Bool.xor_true] at hst
            refine And.intro (fun h4 => ?_) (fun h4 => ?_)
            · have hp : (!(nPar (cbit X) (k - 1))) = true := b2i1 (by rw [← ht]; exact h4)
              refine at66 0 ?_
              rw [hst, hp]
              rfl
            · have hp : (!(nPar (cbit X) (k - 1))) = false := b2i0 (by rw [← ht]; exact h4)
              refine at66 1 ?_
              rw [hst, hp]
              rfl
      exact loop n 0 (by omega) 0 1 0 rfl rfl rfl
    · have hbad : okMask n x = false := decide_eq_false (fun q => h2 (hm.mpr q))
      refine And.intro ⟨?_, rfl⟩ rfl
      unfold qHalves
      rw [if_neg (fun q => by rw [hbad] at q; exact absurd q.2 (by decide))]
