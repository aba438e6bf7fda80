/-! ===== the next row by its numbers ===== -/
def qL (q : Nat → Nat) (m : Nat) : List Nat := (List.range m).map q
theorem qL_succ (q : Nat → Nat) (m : Nat) : qL q (m + 1) = q 0 :: qL (fun i => q (i + 1)) m := by
  unfold qL
  rw [List.range_succ_eq_map, List.map_cons, List.map_map]
  rfl
theorem qL_len (q : Nat → Nat) (m : Nat) : (qL q m).length = m := by simp [qL]
theorem qL_congr {q q' : Nat → Nat} {m : Nat} (h : ∀ i, i < m → q i = q' i) : qL q m = qL q' m := by
  unfold qL
  exact List.map_congr_left (fun i hi => h i (List.mem_range.mp hi))
theorem qL_get {q : Nat → Nat} {m i : Nat} (h : i < m) : (qL q m).getD i 0 = q i := by
  simp [qL, List.getD, h]
abbrev iota (lo m : Nat) : List Nat := qL (fun i => lo + i) m
theorem iota_succ (lo m : Nat) : iota lo (m + 1) = lo :: iota (lo + 1) m := by
  rw [iota, qL_succ]
  congr 1
  exact qL_congr (fun i _ => by omega)
/-- the rows behind this one -/
def aft (N : Nat) : List Nat → List (List Nat)
  | [] => []
  | c :: t => (aft N t).map (fun x => c :: x) ++ cmb (t.length + 1) (N - (c + 1)) (c + 1)
theorem cmb_head : ∀ {m d lo : Nat}, m ≤ d → cmb m d lo = iota lo m :: aft (lo + d) (iota lo m)
  | 0, d, lo, _ => by cases d <;> rfl
  | m + 1, 0, lo, h => absurd h (by omega)
  | m + 1, d + 1, lo, h => by
    rw [iota_succ]
    unfold cmb aft
    rw [cmb_head (m := m) (d := d) (lo := lo + 1) (by omega), List.map_cons, qL_len]
    rw [show lo + 1 + d = lo + (d + 1) by omega, show lo + (d + 1) - (lo + 1) = d by omega]
    rfl
def stp (N : Nat) : List Nat → Option (List Nat)
  | [] => none
  | c :: t => match stp N t with
    | some t' => some (c :: t')
    | none => if c + t.length + 1 < N then some (iota (c + 1) (t.length + 1)) else none
theorem stp_len {N : Nat} : ∀ {cs cs' : List Nat}, stp N cs = some cs' → cs'.length = cs.length
  | [], _, h => by cases h
  | c :: t, cs', h => by
    unfold stp at h
    cases hs : stp N t with
    | some t' =>
      rw [hs] at h
      cases h
      rw [List.length_cons, List.length_cons, stp_len hs]
    | none =>
      rw [hs] at h
      by_cases hc : c + t.length + 1 < N
      · simp only [hc, if_true] at h
        cases h
        rw [qL_len]
        rfl
      · simp only [hc, if_false] at h
        cases h
theorem aft_next {N : Nat} : ∀ (cs : List Nat), aft N cs = match stp N cs with | none => [] | some cs' => cs' :: aft N cs'
  | [] => rfl
  | c :: t => by
    have ih := aft_next (N := N) t
    unfold stp
    rw [aft, ih]
    cases hs : stp N t with
    | some t' =>
      show List.map _ (t' :: aft N t') ++ _ = (c :: t') :: aft N (c :: t')
      rw [aft, stp_len hs]
      rfl
    | none =>
      show [] ++ cmb (t.length + 1) (N - (c + 1)) (c + 1) = _
      rw [List.nil_append]
      by_cases hc : c + t.length + 1 < N
      · simp only [hc, if_true]
        rw [cmb_head (by omega), show c + 1 + (N - (c + 1)) = N by omega]
      · simp only [hc, if_false]
        exact cmb_short (by omega)
theorem stp_none {N : Nat} : ∀ (m : Nat) (q : Nat → Nat), (∀ i, i < m → q i + m = N + i) → stp N (qL q m) = none
  | 0, _, _ => rfl
  | m + 1, q, h => by
    rw [qL_succ]
    unfold stp
    rw [stp_none m (fun i => q (i + 1)) (fun i hi => by have := h (i + 1) (by omega); omega), qL_len]
    have := h 0 (by omega)
    show (if _ then _ else _) = _
    rw [if_neg (by omega)]
theorem stp_some {N : Nat} : ∀ (m j : Nat) (q : Nat → Nat), j < m → (∀ i, j < i → i < m → q i + m = N + i) → q j + m < N + j → stp N (qL q m) = some (qL (fun i => if i < j then q i else q j + 1 + (i - j)) m)
  | 0, j, _, h, _, _ => absurd h (Nat.not_lt_zero j)
  | m + 1, 0, q, _, h2, h3 => by
    rw [qL_succ]
    unfold stp
    rw [stp_none m (fun i => q (i + 1)) (fun i hi => by have := h2 (i + 1) (by omega) (by omega); omega), qL_len]
    show (if _ then _ else _) = _
    rw [if_pos (by omega)]
    congr 1
  | m + 1, j + 1, q, h1, h2, h3 => by
    rw [qL_succ]
    unfold stp
    rw [stp_some m j (fun i => q (i + 1)) (by omega) (fun i hi him => by have := h2 (i + 1) (by omega) (by omega); omega) (by omega)]
    show some (q 0 :: _) = _
    congr 1
    rw [qL_succ (fun i => if i < j + 1 then q i else q (j + 1) + 1 + (i - (j + 1))) m]
    rw [if_pos (by omega)]
    congr 1
    exact qL_congr (fun i _ => by
      by_cases hi : i < j
      · rw [if_pos hi, if_pos (by omega)]
      · rw [if_neg hi, if_neg (by omega)]
        omega)
/-- a row, as an array holds it: rising, below N -/
def qAsc (N : Nat) (q : Nat → Nat) (m : Nat) : Prop := (∀ i, i < m → 1 ≤ q i ∧ q i + m ≤ N + i) ∧ ∀ i j, i < j → j < m → q i < q j
theorem qAsc_next {N m j : Nat} {q : Nat → Nat} (h : qAsc N q m) (hj : j < m) (h3 : q j + m < N + j) : qAsc N (fun i => if i < j then q i else q j + 1 + (i - j)) m := by
  refine ⟨fun i hi => ?_, fun a b hab hb => ?_⟩
  · by_cases hij : i < j
    · simp only [hij, if_true]
      exact h.1 i hi
    · simp only [hij, if_false]
      omega
  · by_cases h1 : a < j
    · by_cases h2 : b < j
      · simp only [h1, h2, if_true]
        exact h.2 a b hab hb
      · simp only [h1, h2, if_true, if_false]
        have := h.2 a j h1 hj
        omega
    · simp only [h1, if_false, show ¬ b < j by omega]
      omega
/-! the mask of a row -/
def mskF (q : Nat → Nat) : Nat → Nat
  | 0 => 0
  | m + 1 => mskF q m ||| 2 ^ (q m)
theorem mskF_bit (q : Nat → Nat) (k : Nat) : ∀ m : Nat, (mskF q m).testBit k = (qL q m).elem k
  | 0 => by simp [mskF, qL]
  | m + 1 => by
    unfold mskF
    rw [Nat.testBit_or, mskF_bit q k m, Nat.testBit_two_pow]
    have e : qL q (m + 1) = qL q m ++ [q m] := by
      unfold qL
      rw [List.range_succ, List.map_append]
      rfl
    rw [e, Bool.eq_iff_iff]
    simp [List.mem_append]
    constructor
    · rintro (h | h)
      · exact Or.inl h
      · exact Or.inr h.symm
    · rintro (h | h)
      · exact Or.inl h
      · exact Or.inr h.symm
theorem cbit_test (X k : Nat) : cbit X k = X.testBit k := by
  unfold cbit
  rw [Nat.testBit_eq_decide_div_mod_eq]
theorem mskF_lt {q : Nat → Nat} {B : Nat} : ∀ {m : Nat}, (∀ i, i < m → q i < B) → mskF q m < 2 ^ B
  | 0, _ => Nat.two_pow_pos B
  | m + 1, h => by
    unfold mskF
    exact Nat.or_lt_two_pow (mskF_lt (fun i hi => h i (by omega))) (Nat.pow_lt_pow_right (by omega) (h m (by omega)))
theorem msk_hal (bs : Nat → Nat) (n : Nat) (q : Nat → Nat) (m : Nat) : nHal bs n (cbit (mskF q m)) = nHalL bs n (qL q m) := nHal_congr (fun p _ _ => by rw [cbit_test, mskF_bit])
