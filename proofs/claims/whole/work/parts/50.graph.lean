/-! ===== rents: shortest walks among people ===== -/
def smZ (f : Nat → Int) : Nat → Int
  | 0 => 0
  | n + 1 => smZ f n + f n
theorem smZ_congr {f g : Nat → Int} : ∀ {n : Nat}, (∀ i, i < n → f i = g i) → smZ f n = smZ g n
  | 0, _ => rfl
  | n + 1, h => by
    unfold smZ
    rw [smZ_congr (fun i hi => h i (by omega)), h n (by omega)]
theorem smZ_add (f g : Nat → Int) : ∀ n : Nat, smZ (fun i => f i + g i) n = smZ f n + smZ g n
  | 0 => rfl
  | n + 1 => by
    show smZ (fun i => f i + g i) n + (f n + g n) = (smZ f n + f n) + (smZ g n + g n)
    rw [smZ_add f g n]
    omega
theorem smZ_sub (f g : Nat → Int) : ∀ n : Nat, smZ (fun i => f i - g i) n = smZ f n - smZ g n
  | 0 => rfl
  | n + 1 => by
    show smZ (fun i => f i - g i) n + (f n - g n) = (smZ f n + f n) - (smZ g n + g n)
    rw [smZ_sub f g n]
    omega
theorem smZ_zero {f : Nat → Int} : ∀ {n : Nat}, (∀ i, i < n → f i = 0) → smZ f n = 0
  | 0, _ => rfl
  | n + 1, h => by
    unfold smZ
    rw [smZ_zero (fun i hi => h i (by omega)), h n (by omega)]
    rfl
theorem smZ_cast (f : Nat → Nat) : ∀ n : Nat, smZ (fun i => (f i : Int)) n = ((sm f n : Nat) : Int)
  | 0 => rfl
  | n + 1 => by
    show smZ (fun i => (f i : Int)) n + (f n : Int) = ((sm f n + f n : Nat) : Int)
    rw [smZ_cast f n]
    omega
theorem smZ_one (f : Nat → Int) (a : Nat) : ∀ n : Nat, a < n → smZ f n = smZ (fun i => if i = a then 0 else f i) n + f a
  | 0, h => absurd h (Nat.not_lt_zero a)
  | n + 1, h => by
    show smZ f n + f n = smZ (fun i => if i = a then 0 else f i) n + (if n = a then 0 else f n) + f a
    by_cases e : n = a
    · subst e
      rw [if_pos rfl, smZ_congr (f := fun i => if i = n then 0 else f i) (g := f) (fun i hi => by
        show (if i = n then 0 else f i) = f i
        rw [if_neg (by omega)])]
      omega
    · rw [if_neg e, smZ_one f a n (by omega)]
      omega
/-- a sum over a row of places that are apart -/
theorem smZ_img (n : Nat) (u : Nat → Nat) : ∀ (L : Nat) (F : Nat → Int), (∀ m, m < L → u m < n) → (∀ m m', m < L → m' < L → u m = u m' → m = m') → (∀ k, k < n → (∀ m, m < L → u m ≠ k) → F k = 0) → smZ F n = smZ (fun m => F (u m)) L
  | 0, F, _, _, h0 => smZ_zero (fun i hi => h0 i hi (fun m hm => absurd hm (Nat.not_lt_zero m)))
  | L + 1, F, hu, hi, h0 => by
    have hz := smZ_img n u L (fun i => if i = u L then 0 else F i) (fun m hm => hu m (by omega)) (fun m m' a b => hi m m' (by omega) (by omega)) (fun k hk hne => by
      show (if k = u L then 0 else F k) = 0
      by_cases e : k = u L
      · rw [if_pos e]
      · rw [if_neg e]
        refine h0 k hk (fun m hm => ?_)
        by_cases e2 : m = L
        · rw [e2]; exact fun w => e w.symm
        · exact hne m (by omega))
    rw [smZ_one F (u L) n (hu L (by omega)), hz]
    show _ = smZ (fun m => F (u m)) L + F (u L)
    rw [smZ_congr (f := fun m => if u m = u L then 0 else F (u m)) (g := fun m => F (u m)) (fun m hm => by
      show (if u m = u L then 0 else F (u m)) = F (u m)
      rw [if_neg (fun w => by have := hi m L (by omega) (by omega) w; omega)])]
/-- the least of f 0 .. f m -/
def mnZ (f : Nat → Int) : Nat → Int
  | 0 => f 0
  | m + 1 => if mnZ f m ≤ f (m + 1) then mnZ f m else f (m + 1)
theorem mnZ_le (f : Nat → Int) : ∀ (m j : Nat), j ≤ m → mnZ f m ≤ f j
  | 0, j, h => by
    rw [Nat.le_zero.mp h]
    exact Int.le_refl _
  | m + 1, j, h => by
    unfold mnZ
    by_cases e : j = m + 1
    · subst e
      split <;> omega
    · have := mnZ_le f m j (by omega)
      split <;> omega
theorem mnZ_at (f : Nat → Int) : ∀ m : Nat, ∃ j, j ≤ m ∧ mnZ f m = f j
  | 0 => ⟨0, Nat.le_refl 0, rfl⟩
  | m + 1 => by
    unfold mnZ
    split
    · obtain ⟨j, h1, h2⟩ := mnZ_at f m
      exact ⟨j, by omega, h2⟩
    · exact ⟨m + 1, Nat.le_refl _, rfl⟩
section GW
variable (n : Nat) (c : Nat → Nat → Int)
/-- the cheapest walk of k steps from i -/
def dW : Nat → Nat → Int
  | 0 => fun _ => 0
  | k + 1 => fun i => mnZ (fun j => c i j + dW k j) (n - 1)
def wcost (v : Nat → Nat) (k : Nat) : Int := smZ (fun m => c (v m) (v (m + 1))) k
end GW
theorem dW_le {n : Nat} {c : Nat → Nat → Int} {k i j : Nat} (hj : j < n) : dW n c (k + 1) i ≤ c i j + dW n c k j := mnZ_le (fun j => c i j + dW n c k j) (n - 1) j (by omega)
theorem dW_at {n : Nat} {c : Nat → Nat → Int} (k i : Nat) (hn : 1 ≤ n) : ∃ j, j < n ∧ dW n c (k + 1) i = c i j + dW n c k j := by
  obtain ⟨j, h1, h2⟩ := mnZ_at (fun j => c i j + dW n c k j) (n - 1)
  exact ⟨j, by omega, h2⟩
theorem smZ_front (f : Nat → Int) : ∀ n : Nat, smZ f (n + 1) = f 0 + smZ (fun i => f (i + 1)) n
  | 0 => by show 0 + f 0 = f 0 + 0; omega
  | n + 1 => by
    show smZ f (n + 1) + f (n + 1) = f 0 + (smZ (fun i => f (i + 1)) n + f (n + 1))
    rw [smZ_front f n]
    omega
theorem smZ_split (f : Nat → Int) (a : Nat) : ∀ b : Nat, smZ f (a + b) = smZ f a + smZ (fun i => f (i + a)) b
  | 0 => by show smZ f a = smZ f a + 0; omega
  | b + 1 => by
    show smZ f (a + b) + f (a + b) = smZ f a + (smZ (fun i => f (i + a)) b + f (b + a))
    rw [smZ_split f a b, Nat.add_comm b a]
    omega
theorem dW_walk {n : Nat} {c : Nat → Nat → Int} : ∀ (k : Nat) (v : Nat → Nat), (∀ m, v m < n) → dW n c k (v 0) ≤ wcost c v k
  | 0, v, _ => Int.le_refl _
  | k + 1, v, hv => by
    have h1 := dW_walk (c := c) k (fun m => v (m + 1)) (fun m => hv (m + 1))
    have h2 := dW_le (c := c) (k := k) (i := v 0) (hv 1)
    have h3 : wcost c v (k + 1) = c (v 0) (v 1) + wcost c (fun m => v (m + 1)) k := smZ_front (fun m => c (v m) (v (m + 1))) k
    rw [h3]
    have h1 : dW n c k (v 1) ≤ wcost c (fun m => v (m + 1)) k := h1
    omega
theorem dW_some {n : Nat} {c : Nat → Nat → Int} (hn : 1 ≤ n) : ∀ (k i : Nat), i < n → ∃ v : Nat → Nat, v 0 = i ∧ (∀ m, v m < n) ∧ wcost c v k = dW n c k i
  | 0, i, hi => ⟨fun _ => i, rfl, fun _ => hi, rfl⟩
  | k + 1, i, hi => by
    obtain ⟨j, hj, e⟩ := dW_at (c := c) k i hn
    obtain ⟨v, v0, v1, v2⟩ := dW_some hn k j hj
    refine ⟨fun m => match m with | 0 => i | m + 1 => v m, rfl, fun m => ?_, ?_⟩
    · cases m with
      | zero => exact hi
      | succ m => exact v1 m
    · unfold wcost
      rw [smZ_front]
      show c i (v 0) + wcost c v k = _
      rw [v0, v2, e]
theorem dW_down {n : Nat} {c : Nat → Nat → Int} (h0 : ∀ i, i < n → c i i = 0) (k : Nat) {i : Nat} (hi : i < n) : dW n c (k + 1) i ≤ dW n c k i := by
  have := dW_le (c := c) (k := k) (i := i) hi
  rw [h0 i hi] at this
  omega
theorem dW_downs {n : Nat} {c : Nat → Nat → Int} (h0 : ∀ i, i < n → c i i = 0) {i : Nat} (hi : i < n) (k : Nat) : ∀ d : Nat, dW n c (k + d) i ≤ dW n c k i
  | 0 => Int.le_refl _
  | d + 1 => by
    have h1 := dW_downs h0 hi k d
    have h2 := dW_down h0 (k + d) hi
    show dW n c (k + d + 1) i ≤ _
    omega
/-- where k stands in a row -/
def fI (u : Nat → Nat) (k : Nat) : Nat → Option Nat
  | 0 => none
  | m + 1 => if u m = k then some m else fI u k m
theorem fI_some {u : Nat → Nat} {k : Nat} : ∀ {L m : Nat}, fI u k L = some m → m < L ∧ u m = k
  | 0, m, h => by cases h
  | L + 1, m, h => by
    unfold fI at h
    by_cases e : u L = k
    · rw [if_pos e] at h
      cases h
      exact ⟨by omega, e⟩
    · rw [if_neg e] at h
      have := fI_some h
      exact ⟨by omega, this.2⟩
theorem fI_none {u : Nat → Nat} {k : Nat} : ∀ {L : Nat}, fI u k L = none → ∀ m, m < L → u m ≠ k
  | 0, _, m, hm => absurd hm (Nat.not_lt_zero m)
  | L + 1, h, m, hm => by
    unfold fI at h
    by_cases e : u L = k
    · rw [if_pos e] at h
      cases h
    · rw [if_neg e] at h
      by_cases e2 : m = L
      · rw [e2]; exact e
      · exact fI_none h m (by omega)
def sgC (u : Nat → Nat) (L k : Nat) : Nat := match fI u k L with
  | none => k
  | some m => u (m + 1)
/-- what is known of the costs: a change of places never gains -/
def noGain (n : Nat) (c : Nat → Nat → Int) : Prop := ∀ g : Nat → Nat, (∀ k, k < n → g k < n) → (∀ k k', k < n → k' < n → g k = g k' → k = k') → 0 ≤ smZ (fun k => c k (g k)) n
theorem cyc_pos {n : Nat} {c : Nat → Nat → Int} (h0 : ∀ i, i < n → c i i = 0) (hg : noGain n c) {u : Nat → Nat} {L : Nat} (hL : 1 ≤ L) (hu : ∀ m, u m < n) (hi : ∀ m m', m < L → m' < L → u m = u m' → m = m') (hc : u L = u 0) : 0 ≤ wcost c u L := by
  -- the step of a place, within the ring
  have hst : ∀ m, m < L → ∃ m', m' < L ∧ u (m + 1) = u m' ∧ ((m + 1 < L ∧ m' = m + 1) ∨ (m + 1 = L ∧ m' = 0)) := by
    intro m hm
    by_cases e : m + 1 < L
    · exact ⟨m + 1, e, rfl, Or.inl ⟨e, rfl⟩⟩
    · have e2 : m + 1 = L := by omega
      exact ⟨0, by omega, by rw [e2, hc], Or.inr ⟨e2, rfl⟩⟩
  have h1 := hg (sgC u L) (fun k hk => by
    unfold sgC
    cases hf : fI u k L with
    | none => exact hk
    | some m => exact hu (m + 1)) (fun k k' hk hk' e => by
    unfold sgC at e
    cases hf : fI u k L with
    | none =>
      cases hf' : fI u k' L with
      | none =>
        rw [hf, hf'] at e
        exact e
      | some m' =>
        rw [hf, hf'] at e
        obtain ⟨a1, a2⟩ := fI_some hf'
        obtain ⟨b, b1, b2, -⟩ := hst m' a1
        have e : k = u (m' + 1) := e
        exact absurd (b2.symm.trans e.symm) (fI_none hf b b1)
    | some m =>
      cases hf' : fI u k' L with
      | none =>
        rw [hf, hf'] at e
        obtain ⟨a1, a2⟩ := fI_some hf
        obtain ⟨b, b1, b2, -⟩ := hst m a1
        have e : u (m + 1) = k' := e
        exact absurd (b2.symm.trans e) (fI_none hf' b b1)
      | some m' =>
        rw [hf, hf'] at e
        obtain ⟨a1, a2⟩ := fI_some hf
        obtain ⟨a1', a2'⟩ := fI_some hf'
        obtain ⟨b, b1, b2, b3⟩ := hst m a1
        obtain ⟨b', b1', b2', b3'⟩ := hst m' a1'
        have e : u (m + 1) = u (m' + 1) := e
        have := hi b b' b1 b1' (by rw [← b2, ← b2']; exact e)
        have : m = m' := by omega
        rw [← a2, ← a2', this])
  rw [smZ_img n u L (fun k => c k (sgC u L k)) (fun m _ => hu m) hi (fun k hk hne => by
    show c k (sgC u L k) = 0
    unfold sgC
    cases hf : fI u k L with
    | none => exact h0 k hk
    | some m =>
      obtain ⟨a1, a2⟩ := fI_some hf
      exact absurd a2 (hne m a1))] at h1
  have h2 : smZ (fun m => c (u m) (sgC u L (u m))) L = wcost c u L := smZ_congr (fun m hm => by
    show c (u m) (sgC u L (u m)) = c (u m) (u (m + 1))
    congr 1
    unfold sgC
    cases hf : fI u (u m) L with
    | none => exact absurd rfl (fI_none hf m hm)
    | some m' =>
      obtain ⟨a1, a2⟩ := fI_some hf
      have := hi m' m a1 hm a2
      subst this
      rfl)
  rw [h2] at h1
  exact h1
theorem dW_stop {n : Nat} {c : Nat → Nat → Int} (hn : 1 ≤ n) (h0 : ∀ i, i < n → c i i = 0) (hg : noGain n c) {i : Nat} (hi : i < n) : dW n c n i ≤ dW n c (n + 1) i := by
  obtain ⟨v, v0, v1, v2⟩ := dW_some (c := c) hn (n + 1) i hi
  -- two places alike, as near as can be
  have hex : ∃ L, ∃ a b, a < b ∧ b ≤ n ∧ v a = v b ∧ b - a = L := by
    obtain ⟨a, b, h1, h2, h3⟩ := php n v (fun m _ => v1 m)
    exact ⟨b - a, a, b, h1, h2, h3, rfl⟩
  obtain ⟨L, ⟨a, b, hab, hbn, e, hL⟩, hmin⟩ := pk_least _ hex
  have hb : b = a + L := by omega
  subst hb
  have hcyc := cyc_pos h0 hg (u := fun m => v (m + a)) (L := L) (by omega) (fun m => v1 _) (fun m m' hm hm' em => by
    have em : v (m + a) = v (m' + a) := em
    rcases Nat.lt_trichotomy m m' with q | q | q
    · exact absurd ⟨m + a, m' + a, by omega, by omega, em, rfl⟩ (hmin (m' + a - (m + a)) (by omega))
    · exact q
    · exact absurd ⟨m' + a, m + a, by omega, by omega, em.symm, rfl⟩ (hmin (m + a - (m' + a)) (by omega))) (by
    show v (L + a) = v (0 + a)
    rw [Nat.add_comm L a, ← e, Nat.zero_add])
  have hsp1 : wcost c v (a + (L + (n + 1 - (a + L)))) = wcost c v a + wcost c (fun m => v (m + a)) (L + (n + 1 - (a + L))) := by
    unfold wcost
    rw [smZ_split]
    congr 1
    refine smZ_congr (fun m _ => ?_)
    show c (v (m + a)) (v (m + a + 1)) = c (v (m + a)) (v (m + 1 + a))
    rw [show m + a + 1 = m + 1 + a by omega]
  have hsp2 : wcost c (fun m => v (m + a)) (L + (n + 1 - (a + L))) = wcost c (fun m => v (m + a)) L + wcost c (fun m => v (m + (a + L))) (n + 1 - (a + L)) := by
    unfold wcost
    rw [smZ_split]
    congr 1
    refine smZ_congr (fun m _ => ?_)
    show c (v (m + L + a)) (v (m + L + 1 + a)) = c (v (m + (a + L))) (v (m + 1 + (a + L)))
    rw [show m + L + a = m + (a + L) by omega, show m + L + 1 + a = m + 1 + (a + L) by omega]
  rw [show a + (L + (n + 1 - (a + L))) = n + 1 by omega, v2] at hsp1
  -- the short walk
  have hw := dW_walk (n := n) (c := c) (a + (n + 1 - (a + L))) (fun m => if m ≤ a then v m else v (m + L)) (fun m => by
    show (if m ≤ a then v m else v (m + L)) < n
    split <;> exact v1 _)
  have hsp3 : wcost c (fun m => if m ≤ a then v m else v (m + L)) (a + (n + 1 - (a + L))) = wcost c v a + wcost c (fun m => v (m + (a + L))) (n + 1 - (a + L)) := by
    unfold wcost
    rw [smZ_split]
    congr 1
    · refine smZ_congr (fun m hm => ?_)
      show c (if m ≤ a then v m else v (m + L)) (if m + 1 ≤ a then v (m + 1) else v (m + 1 + L)) = c (v m) (v (m + 1))
      rw [if_pos (by omega), if_pos (by omega)]
    · refine smZ_congr (fun m hm => ?_)
      show c (if m + a ≤ a then v (m + a) else v (m + a + L)) (if m + a + 1 ≤ a then v (m + a + 1) else v (m + a + 1 + L)) = c (v (m + (a + L))) (v (m + 1 + (a + L)))
      rw [if_neg (show ¬ m + a + 1 ≤ a by omega), show m + a + 1 + L = m + 1 + (a + L) by omega]
      congr 1
      by_cases q : m = 0
      · subst q
        rw [if_pos (by omega), Nat.zero_add, Nat.zero_add]
        exact e
      · rw [if_neg (by omega), show m + a + L = m + (a + L) by omega]
  rw [hsp3] at hw
  have hw : dW n c (a + (n + 1 - (a + L))) (if 0 ≤ a then v 0 else v (0 + L)) ≤ _ := hw
  rw [if_pos (by omega), v0] at hw
  have hd := dW_downs h0 hi (a + (n + 1 - (a + L))) (L - 1)
  rw [show a + (n + 1 - (a + L)) + (L - 1) = n by omega] at hd
  omega
/-- the row of least sums has no gain left -/
theorem dW_fix {n : Nat} {c : Nat → Nat → Int} (hn : 1 ≤ n) (h0 : ∀ i, i < n → c i i = 0) (hg : noGain n c) {i j : Nat} (hi : i < n) (hj : j < n) : dW n c n i ≤ c i j + dW n c n j := by
  have h1 := dW_stop hn h0 hg hi
  have h2 := dW_le (c := c) (k := n) (i := i) hj
  omega
theorem dW_np {n : Nat} {c : Nat → Nat → Int} (h0 : ∀ i, i < n → c i i = 0) {i : Nat} (hi : i < n) (k : Nat) : dW n c k i ≤ 0 := by
  have := dW_downs h0 hi 0 k
  rw [Nat.zero_add] at this
  exact this
/-- any row that has no gain left, and is at most 0, is at most this one -/
theorem dW_max {n : Nat} {c : Nat → Nat → Int} (hn : 1 ≤ n) {x : Nat → Int} (hx0 : ∀ i, i < n → x i ≤ 0) (hx : ∀ i j, i < n → j < n → x i ≤ c i j + x j) : ∀ (k i : Nat), i < n → x i ≤ dW n c k i
  | 0, i, hi => hx0 i hi
  | k + 1, i, hi => by
    obtain ⟨j, hj, e⟩ := dW_at (c := c) k i hn
    have h1 := dW_max hn hx0 hx k j hj
    have h2 := hx i j hi hj
    omega
theorem dW_low {n : Nat} {c : Nat → Nat → Int} (hn : 1 ≤ n) {M : Int} (hc : ∀ i j, i < n → j < n → -M ≤ c i j) : ∀ (k i : Nat), i < n → -(M * (k : Int)) ≤ dW n c k i
  | 0, i, hi => by show -(M * (0 : Int)) ≤ 0; rw [Int.mul_zero]; omega
  | k + 1, i, hi => by
    obtain ⟨j, hj, e⟩ := dW_at (c := c) k i hn
    have h1 := dW_low hn hc k j hj
    have h2 := hc i j hi hj
    rw [e]
    have h3 : M * ((k + 1 : Nat) : Int) = M * (k : Int) + M := by
      rw [show ((k + 1 : Nat) : Int) = (k : Int) + 1 from rfl, Int.mul_add, Int.mul_one]
    rw [h3]
    omega
