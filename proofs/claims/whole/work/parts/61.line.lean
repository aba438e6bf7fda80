/-! ===== the line: worths of its pieces ===== -/
def aS (S : Nat → Nat → Nat) (p k : Nat) : Nat := sm (S p) k
def cl (e a U : Nat) : Nat := min (e - a) U
/-- what lies ahead of place e is worth to p, U to a stretch -/
def pa (L : Nat) (S : Nat → Nat → Nat) (p e U : Nat) : Nat := sm (fun j => S p j * cl e (j * U) U) L
theorem sm_mono {f g : Nat → Nat} : ∀ {n : Nat}, (∀ i, i < n → f i ≤ g i) → sm f n ≤ sm g n
  | 0, _ => Nat.le_refl _
  | n + 1, h => by
    show sm f n + f n ≤ sm g n + g n
    have h1 := sm_mono (n := n) (fun i hi => h i (by omega))
    have h2 := h n (by omega)
    omega
theorem sm_mul (f : Nat → Nat) (c : Nat) : ∀ n : Nat, sm (fun i => f i * c) n = sm f n * c
  | 0 => by show 0 = 0 * c; rw [Nat.zero_mul]
  | n + 1 => by
    show sm (fun i => f i * c) n + f n * c = (sm f n + f n) * c
    rw [sm_mul f c n, Nat.add_mul]
theorem sm_tail {f : Nat → Nat} {k : Nat} : ∀ {m : Nat}, k ≤ m → (∀ j, k ≤ j → j < m → f j = 0) → sm f m = sm f k
  | 0, h, _ => by rw [Nat.le_zero.mp h]
  | m + 1, h, h0 => by
    by_cases e : k = m + 1
    · rw [e]
    · show sm f m + f m = sm f k
      rw [sm_tail (m := m) (by omega) (fun j a b => h0 j a (by omega)), h0 m (by omega) (by omega)]
      rfl
theorem aS_mono (S : Nat → Nat → Nat) (p : Nat) {j k : Nat} (h : j ≤ k) : aS S p j ≤ aS S p k := by
  induction k with
  | zero => rw [Nat.le_zero.mp h]; exact Nat.le_refl _
  | succ k ih =>
    by_cases e : j = k + 1
    · rw [e]; exact Nat.le_refl _
    · have := ih (by omega)
      show aS S p j ≤ sm (S p) k + S p k
      have e2 : aS S p k = sm (S p) k := rfl
      omega
theorem cl_mono {e e' a U : Nat} (h : e ≤ e') : cl e a U ≤ cl e' a U := by
  unfold cl
  omega
theorem cl_mul (e a U c : Nat) : cl (e * c) (a * c) (U * c) = cl e a U * c := by
  unfold cl
  rw [← Nat.sub_mul]
  rcases Nat.le_total (e - a) U with h | h
  · rw [Nat.min_eq_left h, Nat.min_eq_left (Nat.mul_le_mul_right c h)]
  · rw [Nat.min_eq_right h, Nat.min_eq_right (Nat.mul_le_mul_right c h)]
theorem pa_mono {L : Nat} {S : Nat → Nat → Nat} {p e e' U : Nat} (h : e ≤ e') : pa L S p e U ≤ pa L S p e' U := sm_mono (fun j _ => Nat.mul_le_mul_left _ (cl_mono h))
theorem pa_mul (L : Nat) (S : Nat → Nat → Nat) (p e U c : Nat) : pa L S p (e * c) (U * c) = pa L S p e U * c := by
  unfold pa
  rw [← sm_mul]
  refine sm_congr (fun j _ => ?_)
  show S p j * cl (e * c) (j * (U * c)) (U * c) = S p j * cl e (j * U) U * c
  rw [← Nat.mul_assoc j U c, cl_mul, Nat.mul_assoc]
theorem pa_le (L : Nat) (S : Nat → Nat → Nat) (p e U : Nat) : pa L S p e U ≤ aS S p L * U := by
  unfold pa aS
  rw [← sm_mul]
  exact sm_mono (fun j _ => Nat.mul_le_mul_left _ (Nat.min_le_right _ _))
theorem pa_pre {S : Nat → Nat → Nat} {p e U m : Nat} (h : m * U ≤ e) : sm (fun j => S p j * cl e (j * U) U) m = aS S p m * U := by
  unfold aS
  rw [← sm_mul]
  refine sm_congr (fun j hj => ?_)
  show S p j * cl e (j * U) U = S p j * U
  congr 1
  have h1 : (j + 1) * U ≤ m * U := Nat.mul_le_mul_right U (by omega)
  rw [Nat.add_mul, Nat.one_mul] at h1
  unfold cl
  omega
theorem pa_at {L : Nat} {S : Nat → Nat → Nat} {p e U k : Nat} (hk : k < L) (h1 : k * U ≤ e) (h2 : e ≤ (k + 1) * U) : pa L S p e U = aS S p k * U + S p k * (e - k * U) := by
  unfold pa
  rw [sm_tail (k := k + 1) (by omega) (fun j a _ => ?_)]
  · show sm (fun j => S p j * cl e (j * U) U) k + S p k * cl e (k * U) U = _
    rw [pa_pre h1]
    congr 2
    rw [Nat.add_mul, Nat.one_mul] at h2
    unfold cl
    omega
  · have h3 : (k + 1) * U ≤ j * U := Nat.mul_le_mul_right U a
    have : cl e (j * U) U = 0 := by
      unfold cl
      omega
    rw [this, Nat.mul_zero]
theorem pa_end {L : Nat} {S : Nat → Nat → Nat} {p e U : Nat} (h : L * U ≤ e) : pa L S p e U = aS S p L * U := pa_pre h
theorem pa_0 (L : Nat) (S : Nat → Nat → Nat) (p U : Nat) : pa L S p 0 U = 0 := by
  unfold pa
  rw [sm_tail (k := 0) (by omega) (fun j _ _ => ?_)]
  · rfl
  · have : cl 0 (j * U) U = 0 := by
      unfold cl
      omega
    rw [this, Nat.mul_zero]
/-! where a person's next share ends -/
def kF (S : Nat → Nat → Nat) (p w U : Nat) : Nat → Nat → Nat
  | 0, k => k
  | f + 1, k => if aS S p (k + 1) * U < w then kF S p w U f (k + 1) else k
theorem kF_spec {S : Nat → Nat → Nat} {p w U : Nat} : ∀ (f k : Nat), aS S p k * U < w → w ≤ aS S p (k + f + 1) * U → aS S p (kF S p w U f k) * U < w ∧ w ≤ aS S p (kF S p w U f k + 1) * U ∧ kF S p w U f k ≤ k + f
  | 0, k, h1, h2 => ⟨h1, h2, Nat.le_refl _⟩
  | f + 1, k, h1, h2 => by
    unfold kF
    by_cases h : aS S p (k + 1) * U < w
    · rw [if_pos h]
      have := kF_spec f (k + 1) h (by rw [show k + 1 + f + 1 = k + (f + 1) + 1 by omega]; exact h2)
      exact ⟨this.1, this.2.1, by omega⟩
    · rw [if_neg h]
      exact ⟨h1, by omega, by omega⟩
section LN
variable (n L : Nat) (S : Nat → Nat → Nat)
def wS (p e U : Nat) : Nat := pa L S p e U + aS S p L * (U / n)
def kS (p e U : Nat) : Nat := kF S p (wS n L S p e U) U (L - 1) 0
def fS (p e U : Nat) : Nat := if aS S p L = 0 then 1 else S p (kS n L S p e U)
def sS (p e U : Nat) : Nat := if aS S p L = 0 then e else kS n L S p e U * U * S p (kS n L S p e U) + (wS n L S p e U - aS S p (kS n L S p e U) * U)
/-- who speaks first of the first i people -/
def pkS (d e U : Nat) : Nat → Option (Nat × Nat × Nat)
  | 0 => none
  | i + 1 => if d.testBit i = true then pkS d e U i else match pkS d e U i with
    | none => some (i, sS n L S i e U, fS n L S i e U)
    | some (b, pl, f) => if sS n L S i e U * f < pl * fS n L S i e U then some (i, sS n L S i e U, fS n L S i e U) else some (b, pl, f)
/-- ends, unit, holders, who is served -/
abbrev lSt : Type := (Nat → Nat) × Nat × (Nat → Nat) × Nat
def lSt1 (k : Nat) (s : lSt) (q : Nat × Nat × Nat) : lSt := (fun j => if j = k + 1 then q.2.1 else s.1 j * q.2.2, s.2.1 * q.2.2, fun j => if j = k then q.1 else s.2.2.1 j, s.2.2.2 ||| 2 ^ q.1)
def lStep (k : Nat) (s : lSt) : lSt := match pkS n L S s.2.2.2 (s.1 k) s.2.1 n with
  | none => s
  | some q => lSt1 k s q
def lSq : Nat → lSt
  | 0 => (fun _ => 0, n, fun _ => 0, 0)
  | k + 1 => lStep n L S k (lSq k)
end LN
/-- how many of the first m are served -/
def cnB (d : Nat) : Nat → Nat
  | 0 => 0
  | m + 1 => cnB d m + cond (d.testBit m) 1 0
def lastU (d : Nat) : Nat → Nat
  | 0 => 0
  | i + 1 => if d.testBit i = true then lastU d i else i
theorem cnB_or (d : Nat) (hd : d < 32) (b : Nat) (hb : b < 5) (m : Nat) (hm : m < 6) (hbm : b < m) (ht : d.testBit b = false) : cnB (d ||| 2 ^ b) m = cnB d m + 1 ∧ (d ||| 2 ^ b) < 32 := by
  have h : ∀ d : Nat, d < 32 → ∀ b : Nat, b < 5 → ∀ m : Nat, m < 6 → (Nat.ble m b || d.testBit b || (Nat.beq (cnB (d ||| 2 ^ b) m) (cnB d m + 1) && Nat.ble ((d ||| 2 ^ b) + 1) 32)) = true := by decide +kernel
  have g := h d hd b hb m hm
  rw [ht, Bool.or_false, Bool.or_eq_true, Bool.and_eq_true] at g
  rcases g with g | g
  · have := Nat.le_of_ble_eq_true g
    omega
  · exact ⟨Nat.eq_of_beq_eq_true g.1, Nat.le_of_ble_eq_true g.2⟩
theorem or_bit : ∀ d : Nat, d < 32 → ∀ b : Nat, b < 5 → ∀ i : Nat, i < 5 → (d ||| 2 ^ b).testBit i = (d.testBit i || decide (i = b)) := by decide +kernel
theorem cnB_ex : ∀ d : Nat, d < 32 → ∀ m : Nat, m < 6 → cnB d m < m → ∃ i, i < m ∧ d.testBit i = false := by
  have h : ∀ d : Nat, d < 32 → ∀ m : Nat, m < 6 → Nat.ble m (cnB d m) = true ∨ (List.range m).any (fun i => !d.testBit i) = true := by decide +kernel
  intro d hd m hm hc
  rcases h d hd m hm with q | q
  · have := Nat.le_of_ble_eq_true q
    omega
  · obtain ⟨i, hi, e⟩ := List.any_eq_true.mp q
    exact ⟨i, List.mem_range.mp hi, by simpa using e⟩
theorem last_one : ∀ d : Nat, d < 32 → ∀ m : Nat, m < 6 → cnB d m + 1 = m → ∀ i : Nat, i < m → d.testBit i = false → lastU d m = i := by decide +kernel
/-- what holds of a person who speaks -/
theorem sp_ok {n L : Nat} {S : Nat → Nat → Nat} {p e U part : Nat} (hn : 1 ≤ n) (hL : 1 ≤ L) (hdv : n * (U / n) = U) (hU : 1 ≤ U) (hW : ¬ aS S p L = 0) (hp : part + 1 ≤ n) (hv : n * pa L S p e U ≤ part * aS S p L * U) :
    kS n L S p e U < L ∧ aS S p (kS n L S p e U) * U < wS n L S p e U ∧ wS n L S p e U ≤ aS S p (kS n L S p e U + 1) * U ∧ 1 ≤ S p (kS n L S p e U) ∧ pa L S p (sS n L S p e U) (U * fS n L S p e U) = wS n L S p e U * fS n L S p e U ∧ e * fS n L S p e U ≤ sS n L S p e U ∧ sS n L S p e U ≤ L * (U * fS n L S p e U) ∧ n * wS n L S p e U = n * pa L S p e U + aS S p L * U ∧ wS n L S p e U ≤ aS S p L * U := by
  have hnw : n * wS n L S p e U = n * pa L S p e U + aS S p L * U := by
    unfold wS
    rw [Nat.mul_add, Nat.mul_left_comm, hdv]
  have hu : 1 ≤ U / n := by
    rcases Nat.eq_zero_or_pos (U / n) with h | h
    · rw [h, Nat.mul_zero] at hdv
      omega
    · exact h
  have hpw : pa L S p e U < wS n L S p e U := by
    unfold wS
    have : 1 * 1 ≤ aS S p L * (U / n) := Nat.mul_le_mul (by omega) hu
    omega
  have hwle : wS n L S p e U ≤ aS S p L * U := by
    have h1 : n * wS n L S p e U ≤ n * (aS S p L * U) := by
      have h2 : (part + 1) * (aS S p L * U) ≤ n * (aS S p L * U) := Nat.mul_le_mul_right _ hp
      rw [Nat.add_mul, Nat.one_mul] at h2
      rw [Nat.mul_assoc] at hv
      omega
    exact Nat.le_of_mul_le_mul_left h1 (by omega)
  obtain ⟨k1, k2, k3⟩ := kF_spec (S := S) (p := p) (w := wS n L S p e U) (U := U) (L - 1) 0 (by
    show 0 * U < _
    rw [Nat.zero_mul]
    omega) (by
    rw [show 0 + (L - 1) + 1 = L by omega]
    exact hwle)
  have k1 : aS S p (kS n L S p e U) * U < wS n L S p e U := k1
  have k2 : wS n L S p e U ≤ aS S p (kS n L S p e U + 1) * U := k2
  have k3 : kS n L S p e U ≤ 0 + (L - 1) := k3
  have ef : fS n L S p e U = S p (kS n L S p e U) := by
    unfold fS
    rw [if_neg hW]
  have es : sS n L S p e U = kS n L S p e U * U * S p (kS n L S p e U) + (wS n L S p e U - aS S p (kS n L S p e U) * U) := by
    unfold sS
    rw [if_neg hW]
  have hkL : kS n L S p e U < L := by omega
  rw [ef, es]
  generalize kS n L S p e U = k at *
  generalize wS n L S p e U = w at *
  have hA : aS S p (k + 1) = aS S p k + S p k := rfl
  rw [hA, Nat.add_mul] at k2
  have hf : 1 ≤ S p k := by
    rcases Nat.eq_zero_or_pos (S p k) with h | h
    · rw [h, Nat.zero_mul] at k2
      omega
    · exact h
  have b1 : k * (U * S p k) ≤ k * U * S p k + (w - aS S p k * U) := by
    rw [Nat.mul_assoc]
    omega
  have hUf : U * S p k = S p k * U := Nat.mul_comm _ _
  have b2 : k * U * S p k + (w - aS S p k * U) ≤ (k + 1) * (U * S p k) := by
    rw [Nat.mul_assoc, Nat.add_mul, Nat.one_mul]
    omega
  have hpa : pa L S p (k * U * S p k + (w - aS S p k * U)) (U * S p k) = w * S p k := by
    rw [pa_at hkL b1 b2]
    rw [show k * U * S p k + (w - aS S p k * U) - k * (U * S p k) = w - aS S p k * U by rw [Nat.mul_assoc]; omega]
    obtain ⟨z, hz⟩ : ∃ z, w = aS S p k * U + z := ⟨w - aS S p k * U, by omega⟩
    rw [hz, show aS S p k * U + z - aS S p k * U = z by omega]
    grind
  refine ⟨hkL, k1, by rw [hA, Nat.add_mul]; exact k2, hf, hpa, ?_, ?_, hnw, hwle⟩
  · apply Classical.byContradiction
    intro hc
    have h1 := pa_mono (L := L) (S := S) (p := p) (U := U * S p k) (Nat.le_of_lt (Nat.lt_of_not_le hc))
    rw [hpa, pa_mul] at h1
    have h2 := Nat.le_of_mul_le_mul_right h1 (by omega)
    omega
  · have h1 : (k + 1) * (U * S p k) ≤ L * (U * S p k) := Nat.mul_le_mul_right _ (by omega)
    omega
