/-! ===== the line: one cut after the other ===== -/
theorem pkS_none {n L : Nat} {S : Nat → Nat → Nat} {d e U : Nat} : ∀ {i : Nat}, pkS n L S d e U i = none → ∀ q, q < i → d.testBit q = true
  | 0, _, q, hq => absurd hq (Nat.not_lt_zero q)
  | i + 1, h, q, hq => by
    unfold pkS at h
    by_cases ht : d.testBit i = true
    · rw [if_pos ht] at h
      by_cases e2 : q = i
      · rw [e2]; exact ht
      · exact pkS_none h q (by omega)
    · rw [if_neg ht] at h
      cases hp : pkS n L S d e U i with
      | none => simp only [hp] at h; cases h
      | some v =>
        obtain ⟨b, pl, f⟩ := v
        simp only [hp] at h
        split at h <;> cases h
theorem pkS_some {n L : Nat} {S : Nat → Nat → Nat} {d e U : Nat} : ∀ {i : Nat}, (∀ q, q < i → d.testBit q = false → 1 ≤ fS n L S q e U) → ∀ {b pl f : Nat}, pkS n L S d e U i = some (b, pl, f) → b < i ∧ d.testBit b = false ∧ pl = sS n L S b e U ∧ f = fS n L S b e U ∧ ∀ q, q < i → d.testBit q = false → pl * fS n L S q e U ≤ sS n L S q e U * f
  | 0, _, b, pl, f, h => by cases h
  | i + 1, hf, b, pl, f, h => by
    unfold pkS at h
    by_cases ht : d.testBit i = true
    · rw [if_pos ht] at h
      obtain ⟨g1, g2, g3, g4, g5⟩ := pkS_some (fun q hq => hf q (by omega)) h
      refine ⟨by omega, g2, g3, g4, fun q hq hq2 => ?_⟩
      by_cases e2 : q = i
      · rw [e2, ht] at hq2; cases hq2
      · exact g5 q (by omega) hq2
    · rw [if_neg ht] at h
      have ht : d.testBit i = false := by simpa using ht
      cases hp : pkS n L S d e U i with
      | none =>
        simp only [hp] at h
        have hall := pkS_none hp
        cases h
        refine ⟨by omega, ht, rfl, rfl, fun q hq hq2 => ?_⟩
        by_cases e2 : q = i
        · rw [e2]; exact Nat.le_refl _
        · have := hall q (by omega)
          rw [this] at hq2
          cases hq2
      | some v =>
        obtain ⟨b', pl', f'⟩ := v
        simp only [hp] at h
        obtain ⟨g1, g2, g3, g4, g5⟩ := pkS_some (fun q hq => hf q (by omega)) hp
        by_cases hc : sS n L S i e U * f' < pl' * fS n L S i e U
        · rw [if_pos hc] at h
          cases h
          refine ⟨by omega, ht, rfl, rfl, fun q hq hq2 => ?_⟩
          by_cases e2 : q = i
          · rw [e2]; exact Nat.le_refl _
          · have h5 := g5 q (by omega) hq2
            have hf' : 1 ≤ f' := by rw [g4]; exact hf b' (by omega) g2
            have h6 : sS n L S i e U * f' * fS n L S q e U ≤ pl' * fS n L S i e U * fS n L S q e U := Nat.mul_le_mul_right _ (Nat.le_of_lt hc)
            have h7 : pl' * fS n L S q e U * fS n L S i e U ≤ sS n L S q e U * f' * fS n L S i e U := Nat.mul_le_mul_right _ h5
            have h8 : sS n L S i e U * fS n L S q e U * f' ≤ sS n L S q e U * fS n L S i e U * f' := by
              have e1 : sS n L S i e U * fS n L S q e U * f' = sS n L S i e U * f' * fS n L S q e U := Nat.mul_right_comm _ _ _
              have e2 : sS n L S q e U * fS n L S i e U * f' = sS n L S q e U * f' * fS n L S i e U := Nat.mul_right_comm _ _ _
              have e3 : pl' * fS n L S i e U * fS n L S q e U = pl' * fS n L S q e U * fS n L S i e U := Nat.mul_right_comm _ _ _
              omega
            exact Nat.le_of_mul_le_mul_right h8 (by omega)
        · rw [if_neg hc] at h
          cases h
          refine ⟨by omega, g2, g3, g4, fun q hq hq2 => ?_⟩
          by_cases e2 : q = i
          · rw [e2]; omega
          · exact g5 q (by omega) hq2
/-- what holds behind k cuts -/
def LI (n L : Nat) (S : Nat → Nat → Nat) (k : Nat) (s : lSt) : Prop :=
  (1 ≤ s.2.1 ∧ n * (s.2.1 / n) = s.2.1 ∧ s.2.1 ≤ 5 * 30 ^ k) ∧ (s.1 0 = 0 ∧ (∀ j, j < k → s.1 j ≤ s.1 (j + 1)) ∧ s.1 k ≤ L * s.2.1) ∧ (s.2.2.2 < 32 ∧ cnB s.2.2.2 n = k) ∧
  ((∀ j, j < k → s.2.2.1 j < n ∧ s.2.2.2.testBit (s.2.2.1 j) = true) ∧ (∀ j j', j < k → j' < k → s.2.2.1 j = s.2.2.1 j' → j = j') ∧ ∀ i, i < n → s.2.2.2.testBit i = true → ∃ j, j < k ∧ s.2.2.1 j = i) ∧
  ∀ q, q < n → s.2.2.2.testBit q = false → n * pa L S q (s.1 k) s.2.1 ≤ k * aS S q L * s.2.1
/-- every speech, at a state that is well -/
theorem LI_sp {n L : Nat} {S : Nat → Nat → Nat} (hn : 1 ≤ n) (hL : 1 ≤ L) (hS : ∀ p j, p < n → j < L → S p j ≤ 30) {k : Nat} (hk : k + 1 ≤ n) {s : lSt} (h : LI n L S k s) {q : Nat} (hq : q < n) (hd : s.2.2.2.testBit q = false) : 1 ≤ fS n L S q (s.1 k) s.2.1 ∧ fS n L S q (s.1 k) s.2.1 ≤ 30 ∧ s.1 k * fS n L S q (s.1 k) s.2.1 ≤ sS n L S q (s.1 k) s.2.1 ∧ sS n L S q (s.1 k) s.2.1 ≤ L * (s.2.1 * fS n L S q (s.1 k) s.2.1) := by
  obtain ⟨⟨u1, u2, u3⟩, ⟨e1, e2, e3⟩, ⟨d1, d2⟩, hh, hv⟩ := h
  by_cases hW : aS S q L = 0
  · have ef : fS n L S q (s.1 k) s.2.1 = 1 := by unfold fS; rw [if_pos hW]
    have es : sS n L S q (s.1 k) s.2.1 = s.1 k := by unfold sS; rw [if_pos hW]
    rw [ef, es, Nat.mul_one, Nat.mul_one]
    exact ⟨by omega, by omega, Nat.le_refl _, e3⟩
  · obtain ⟨g1, g2, g3, g4, g5, g6, g7, g8, g9⟩ := sp_ok hn hL u2 u1 hW hk (hv q hq hd)
    have ef : fS n L S q (s.1 k) s.2.1 = S q (kS n L S q (s.1 k) s.2.1) := by unfold fS; rw [if_neg hW]
    refine ⟨by rw [ef]; exact g4, by rw [ef]; exact hS q _ hq g1, g6, g7⟩
theorem LI_step {n L : Nat} {S : Nat → Nat → Nat} (hn : 1 ≤ n) (hn5 : n ≤ 5) (hL : 1 ≤ L) (hS : ∀ p j, p < n → j < L → S p j ≤ 30) {k : Nat} (hk : k + 1 < n) {s : lSt} (h : LI n L S k s) : ∃ b pl f, pkS n L S s.2.2.2 (s.1 k) s.2.1 n = some (b, pl, f) ∧ b < n ∧ s.2.2.2.testBit b = false ∧ pl = sS n L S b (s.1 k) s.2.1 ∧ f = fS n L S b (s.1 k) s.2.1 ∧ 1 ≤ f ∧ f ≤ 30 ∧ LI n L S (k + 1) (lSt1 k s (b, pl, f)) := by
  have hsp : ∀ {q : Nat}, q < n → s.2.2.2.testBit q = false → 1 ≤ fS n L S q (s.1 k) s.2.1 ∧ fS n L S q (s.1 k) s.2.1 ≤ 30 ∧ s.1 k * fS n L S q (s.1 k) s.2.1 ≤ sS n L S q (s.1 k) s.2.1 ∧ sS n L S q (s.1 k) s.2.1 ≤ L * (s.2.1 * fS n L S q (s.1 k) s.2.1) := fun {q} hq hd => LI_sp hn hL hS (by omega) h hq hd
  obtain ⟨⟨u1, u2, u3⟩, ⟨e1, e2, e3⟩, ⟨d1, d2⟩, ⟨h1, h2, h3⟩, hv⟩ := id h
  cases hp : pkS n L S s.2.2.2 (s.1 k) s.2.1 n with
  | none =>
    exfalso
    obtain ⟨i, hi, hti⟩ := cnB_ex s.2.2.2 d1 n (by omega) (by omega)
    have := pkS_none hp i hi
    rw [this] at hti
    cases hti
  | some v =>
    obtain ⟨b, pl, f⟩ := v
    obtain ⟨g1, g2, g3, g4, g5⟩ := pkS_some (fun q hq hd => (hsp hq hd).1) hp
    obtain ⟨s1, s2, s3, s4⟩ := hsp g1 g2
    rw [← g4] at s1 s2 s3 s4
    rw [← g3] at s3 s4
    refine ⟨b, pl, f, rfl, g1, g2, g3, g4, s1, s2, ?_⟩
    obtain ⟨c1, c2⟩ := cnB_or s.2.2.2 d1 b (by omega) n (by omega) g1 g2
    have hbit : ∀ {i : Nat}, i < n → (s.2.2.2 ||| 2 ^ b).testBit i = (s.2.2.2.testBit i || decide (i = b)) := fun {i} hi => or_bit s.2.2.2 d1 b (by omega) i (by omega)
    refine ⟨⟨?_, ?_, ?_⟩, ⟨?_, fun j hj => ?_, ?_⟩, ⟨c2, by show cnB (s.2.2.2 ||| 2 ^ b) n = k + 1; rw [c1, d2]⟩, ⟨fun j hj => ?_, fun j j' hj hj' e => ?_, fun i hi ht => ?_⟩, fun q hq hd => ?_⟩
    · show 1 ≤ s.2.1 * f
      have := Nat.mul_le_mul u1 s1
      omega
    · show n * (s.2.1 * f / n) = s.2.1 * f
      have : s.2.1 * f / n = s.2.1 / n * f := by
        rw [← u2, Nat.mul_assoc, Nat.mul_div_cancel_left _ (by omega), Nat.mul_div_cancel_left _ (by omega)]
      rw [this, ← Nat.mul_assoc, u2]
    · show s.2.1 * f ≤ 5 * 30 ^ (k + 1)
      have := Nat.mul_le_mul u3 s2
      rw [Nat.pow_succ, ← Nat.mul_assoc]
      exact this
    · show (if 0 = k + 1 then pl else s.1 0 * f) = 0
      rw [if_neg (by omega), e1, Nat.zero_mul]
    · show (if j = k + 1 then pl else s.1 j * f) ≤ (if j + 1 = k + 1 then pl else s.1 (j + 1) * f)
      rw [if_neg (by omega)]
      by_cases ej : j = k
      · rw [if_pos (by omega), ej]
        exact s3
      · rw [if_neg (by omega)]
        exact Nat.mul_le_mul_right f (e2 j (by omega))
    · show (if k + 1 = k + 1 then pl else s.1 (k + 1) * f) ≤ L * (s.2.1 * f)
      rw [if_pos rfl]
      exact s4
    · show (if j = k then b else s.2.2.1 j) < n ∧ (s.2.2.2 ||| 2 ^ b).testBit (if j = k then b else s.2.2.1 j) = true
      by_cases ej : j = k
      · rw [if_pos ej, hbit g1]
        exact ⟨g1, by simp⟩
      · rw [if_neg ej]
        obtain ⟨a1, a2⟩ := h1 j (by omega)
        rw [hbit a1, a2]
        exact ⟨a1, rfl⟩
    · have e : (if j = k then b else s.2.2.1 j) = (if j' = k then b else s.2.2.1 j') := e
      by_cases ej : j = k
      · by_cases ej' : j' = k
        · omega
        · rw [if_pos ej, if_neg ej'] at e
          have := (h1 j' (by omega)).2
          rw [← e, g2] at this
          cases this
      · by_cases ej' : j' = k
        · rw [if_neg ej, if_pos ej'] at e
          have := (h1 j (by omega)).2
          rw [e, g2] at this
          cases this
        · rw [if_neg ej, if_neg ej'] at e
          exact h2 j j' (by omega) (by omega) e
    · have ht : (s.2.2.2 ||| 2 ^ b).testBit i = true := ht
      rw [hbit hi, Bool.or_eq_true, decide_eq_true_eq] at ht
      by_cases eb : i = b
      · exact ⟨k, by omega, by show (if k = k then b else s.2.2.1 k) = i; rw [if_pos rfl, eb]⟩
      · rcases ht with ht | ht
        · obtain ⟨j, hj, ej⟩ := h3 i hi ht
          exact ⟨j, by omega, by show (if j = k then b else s.2.2.1 j) = i; rw [if_neg (by omega)]; exact ej⟩
        · exact absurd ht eb
    · have hd : (s.2.2.2 ||| 2 ^ b).testBit q = false := hd
      rw [hbit hq, Bool.or_eq_false_iff] at hd
      show n * pa L S q (if k + 1 = k + 1 then pl else s.1 (k + 1) * f) (s.2.1 * f) ≤ (k + 1) * aS S q L * (s.2.1 * f)
      rw [if_pos rfl]
      by_cases hW : aS S q L = 0
      · have := pa_le L S q pl (s.2.1 * f)
        rw [hW, Nat.zero_mul] at this
        rw [Nat.le_zero.mp this, Nat.mul_zero]
        omega
      · obtain ⟨t1, t2, t3, t4, t5, t6, t7, t8, t9⟩ := sp_ok hn hL u2 u1 hW (by omega) (hv q hq hd.1)
        have hmin := g5 q hq hd.1
        have hfq := (hsp hq hd.1).1
        have hvq := hv q hq hd.1
        generalize fS n L S q (s.1 k) s.2.1 = fq at *
        generalize sS n L S q (s.1 k) s.2.1 = sq at *
        generalize wS n L S q (s.1 k) s.2.1 = w at *
        have hA : pa L S q pl (s.2.1 * f) ≤ w * f := by
          have b1 := pa_mono (L := L) (S := S) (p := q) (U := s.2.1 * f * fq) hmin
          rw [pa_mul] at b1
          have e5 : s.2.1 * f * fq = s.2.1 * fq * f := Nat.mul_right_comm _ _ _
          rw [e5, pa_mul, t5] at b1
          have e6 : w * fq * f = w * f * fq := Nat.mul_right_comm _ _ _
          rw [e6] at b1
          exact Nat.le_of_mul_le_mul_right b1 hfq
        have hB : n * pa L S q pl (s.2.1 * f) ≤ n * (w * f) := Nat.mul_le_mul_left n hA
        have hC : n * w ≤ (k + 1) * aS S q L * s.2.1 := by
          rw [t8, Nat.add_mul, Nat.add_mul, Nat.one_mul]
          omega
        have hD : n * w * f ≤ (k + 1) * aS S q L * s.2.1 * f := Nat.mul_le_mul_right f hC
        rw [← Nat.mul_assoc] at hB
        rw [← Nat.mul_assoc]
        omega
theorem LI_0 {n L : Nat} {S : Nat → Nat → Nat} (hn : 1 ≤ n) (hn5 : n ≤ 5) : LI n L S 0 (lSq n L S 0) := by
  refine ⟨⟨hn, ?_, ?_⟩, ⟨rfl, fun j hj => absurd hj (Nat.not_lt_zero j), Nat.zero_le _⟩, ⟨by show 0 < 32; omega, ?_⟩, ⟨fun j hj => absurd hj (Nat.not_lt_zero j), fun j j' hj => absurd hj (Nat.not_lt_zero j), fun i hi ht => ?_⟩, fun q hq hd => ?_⟩
  · show n * (n / n) = n
    rw [Nat.div_self (by omega), Nat.mul_one]
  · show n ≤ 5 * 30 ^ 0
    rw [Nat.pow_zero]
    omega
  · show cnB 0 n = 0
    have : ∀ m : Nat, m < 6 → cnB 0 m = 0 := by decide +kernel
    exact this n (by omega)
  · have ht : (0 : Nat).testBit i = true := ht
    rw [Nat.zero_testBit] at ht
    cases ht
  · show n * pa L S q 0 n ≤ 0 * aS S q L * n
    rw [pa_0, Nat.mul_zero]
    omega
theorem lSq_ok {n L : Nat} {S : Nat → Nat → Nat} (hn : 1 ≤ n) (hn5 : n ≤ 5) (hL : 1 ≤ L) (hS : ∀ p j, p < n → j < L → S p j ≤ 30) : ∀ k : Nat, k < n → LI n L S k (lSq n L S k)
  | 0, _ => LI_0 hn hn5
  | k + 1, hk => by
    have h := lSq_ok hn hn5 hL hS k (by omega)
    obtain ⟨b, pl, f, hp, -, -, -, -, -, -, hI⟩ := LI_step hn hn5 hL hS hk h
    show LI n L S (k + 1) (lStep n L S k (lSq n L S k))
    unfold lStep
    rw [hp]
    exact hI
/-! the end: the last part goes to who is left -/
section LE
variable (n L : Nat) (S : Nat → Nat → Nat)
def uE : Nat := (lSq n L S (n - 1)).2.1
def eE (k : Nat) : Nat := if k = n then L * uE n L S else (lSq n L S (n - 1)).1 k
def hE (k : Nat) : Nat := if k = n - 1 then lastU (lSq n L S (n - 1)).2.2.2 n else (lSq n L S (n - 1)).2.2.1 k
end LE
theorem uE_rng {n L : Nat} {S : Nat → Nat → Nat} (hn : 1 ≤ n) (hn5 : n ≤ 5) (hL : 1 ≤ L) (hS : ∀ p j, p < n → j < L → S p j ≤ 30) : 1 ≤ uE n L S ∧ uE n L S ≤ 4050000 := by
  obtain ⟨⟨u1, u2, u3⟩, -⟩ := lSq_ok hn hn5 hL hS (n - 1) (by omega)
  refine ⟨u1, Nat.le_trans u3 ?_⟩
  have : 30 ^ (n - 1) ≤ 30 ^ 4 := Nat.pow_le_pow_right (by omega) (by omega)
  omega
theorem eE_ok {n L : Nat} {S : Nat → Nat → Nat} (hn : 1 ≤ n) (hn5 : n ≤ 5) (hL : 1 ≤ L) (hS : ∀ p j, p < n → j < L → S p j ≤ 30) : eE n L S 0 = 0 ∧ (∀ k, k < n → eE n L S k ≤ eE n L S (k + 1)) ∧ ∀ k, k ≤ n → eE n L S k ≤ L * uE n L S := by
  obtain ⟨-, ⟨e1, e2, e3⟩, -⟩ := lSq_ok hn hn5 hL hS (n - 1) (by omega)
  have hmono : ∀ k, k < n → eE n L S k ≤ eE n L S (k + 1) := by
    intro k hk
    unfold eE
    rw [if_neg (by omega)]
    by_cases ek : k + 1 = n
    · rw [if_pos ek, show k = n - 1 by omega]
      exact e3
    · rw [if_neg ek]
      exact e2 k (by omega)
  refine ⟨by unfold eE; rw [if_neg (by omega)]; exact e1, hmono, ?_⟩
  intro k hk
  have : ∀ d k, k + d = n → eE n L S k ≤ L * uE n L S := by
    intro d
    induction d with
    | zero =>
      intro k hk
      have hk : k = n := hk
      unfold eE
      rw [if_pos hk]
      exact Nat.le_refl _
    | succ d ih =>
      intro k hk
      exact Nat.le_trans (hmono k (by omega)) (ih (k + 1) (by omega))
  exact this (n - k) k (by omega)
/-- each holds one part -/
theorem hE_ok {n L : Nat} {S : Nat → Nat → Nat} (hn : 1 ≤ n) (hn5 : n ≤ 5) (hL : 1 ≤ L) (hS : ∀ p j, p < n → j < L → S p j ≤ 30) : (∀ k, k < n → hE n L S k < n) ∧ (∀ k k', k < n → k' < n → hE n L S k = hE n L S k' → k = k') ∧ ∀ i, i < n → ∃ k, k < n ∧ hE n L S k = i := by
  obtain ⟨-, -, ⟨d1, d2⟩, ⟨h1, h2, h3⟩, -⟩ := lSq_ok hn hn5 hL hS (n - 1) (by omega)
  obtain ⟨i0, hi0, ht0⟩ := cnB_ex (lSq n L S (n - 1)).2.2.2 d1 n (by omega) (by omega)
  have hl : ∀ i, i < n → (lSq n L S (n - 1)).2.2.2.testBit i = false → lastU (lSq n L S (n - 1)).2.2.2 n = i := fun i hi ht => last_one _ d1 n (by omega) (by omega) i hi ht
  have hl0 := hl i0 hi0 ht0
  refine ⟨fun k hk => ?_, fun k k' hk hk' e => ?_, fun i hi => ?_⟩
  · unfold hE
    by_cases ek : k = n - 1
    · rw [if_pos ek, hl0]; exact hi0
    · rw [if_neg ek]
      exact (h1 k (by omega)).1
  · unfold hE at e
    by_cases ek : k = n - 1
    · by_cases ek' : k' = n - 1
      · omega
      · rw [if_pos ek, if_neg ek', hl0] at e
        have := (h1 k' (by omega)).2
        rw [← e, ht0] at this
        cases this
    · by_cases ek' : k' = n - 1
      · rw [if_neg ek, if_pos ek', hl0] at e
        have := (h1 k (by omega)).2
        rw [e, ht0] at this
        cases this
      · rw [if_neg ek, if_neg ek'] at e
        exact h2 k k' (by omega) (by omega) e
  · cases ht : (lSq n L S (n - 1)).2.2.2.testBit i with
    | false => exact ⟨n - 1, by omega, by unfold hE; rw [if_pos rfl]; exact hl i hi ht⟩
    | true =>
      obtain ⟨j, hj, ej⟩ := h3 i hi ht
      exact ⟨j, by omega, by unfold hE; rw [if_neg (by omega)]; exact ej⟩
/-- the worth of part k to person p, in pieces -/
def pcs (n L : Nat) (S : Nat → Nat → Nat) (p k : Nat) : Nat := pa L S p (eE n L S (k + 1)) (uE n L S) - pa L S p (eE n L S k) (uE n L S)
/-! fractions in least terms -/
def rdN (a b : Nat) : Nat := a / Nat.gcd a b
def rdD (a b : Nat) : Nat := b / Nat.gcd a b
theorem rd_mul (a b c : Nat) (hc : 0 < c) : rdN (a * c) (b * c) = rdN a b ∧ rdD (a * c) (b * c) = rdD a b := by
  unfold rdN rdD
  rw [Nat.gcd_mul_right, Nat.mul_div_mul_right _ _ hc, Nat.mul_div_mul_right _ _ hc]
  exact ⟨rfl, rfl⟩
theorem rd_eq {a b c d : Nat} (hb : 0 < b) (hd : 0 < d) (h : a * d = c * b) : rdN a b = rdN c d ∧ rdD a b = rdD c d := by
  obtain ⟨h1, h2⟩ := rd_mul a b d hd
  obtain ⟨h3, h4⟩ := rd_mul c d b hb
  rw [← h1, ← h2, ← h3, ← h4, h, Nat.mul_comm b d]
  exact ⟨rfl, rfl⟩
theorem rd_of {a b : Nat} (hb : 0 < b) : ∃ g, 0 < g ∧ a = rdN a b * g ∧ b = rdD a b * g ∧ 0 < rdD a b := by
  have hg : 0 < Nat.gcd a b := Nat.gcd_pos_of_pos_right a hb
  refine ⟨Nat.gcd a b, hg, (Nat.div_mul_cancel (Nat.gcd_dvd_left a b)).symm, (Nat.div_mul_cancel (Nat.gcd_dvd_right a b)).symm, ?_⟩
  exact Nat.div_pos (Nat.le_of_dvd hb (Nat.gcd_dvd_right a b)) hg
