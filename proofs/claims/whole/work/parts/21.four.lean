/-! ===== halving a row of beads of sorts 0 .. 3: four cuts are enough ===== -/
/-- who has bead k: the cuts at 1 .. k, mod 2 -/
def nPar (c : Nat → Bool) (k : Nat) : Bool := xs (fun j => c (j + 1)) k
def nCnt (bs : Nat → Nat) (c : Nat → Bool) (s : Nat) (b : Bool) (n : Nat) : Nat := cntP (fun k => decide (bs k = s) && (nPar c k == b)) n
def nH1 (bs : Nat → Nat) (n : Nat) (c : Nat → Bool) (s : Nat) : Bool := decide (nCnt bs c s false n ≤ nCnt bs c s true n + 1 ∧ nCnt bs c s true n ≤ nCnt bs c s false n + 1)
def nHal (bs : Nat → Nat) (n : Nat) (c : Nat → Bool) : Bool := nH1 bs n c 0 && nH1 bs n c 1 && nH1 bs n c 2 && nH1 bs n c 3
theorem nHal_iff {bs : Nat → Nat} {n : Nat} {c : Nat → Bool} : nHal bs n c = true ↔ ∀ s, s < 4 → (nCnt bs c s false n ≤ nCnt bs c s true n + 1 ∧ nCnt bs c s true n ≤ nCnt bs c s false n + 1) := by
  unfold nHal nH1
  simp only [Bool.and_eq_true, decide_eq_true_eq]
  constructor
  · rintro ⟨⟨⟨h0, h1⟩, h2⟩, h3⟩ s hs
    rcases (by omega : s = 0 ∨ s = 1 ∨ s = 2 ∨ s = 3) with rfl | rfl | rfl | rfl
    · exact h0
    · exact h1
    · exact h2
    · exact h3
  · intro h
    exact ⟨⟨⟨h 0 (by omega), h 1 (by omega)⟩, h 2 (by omega)⟩, h 3 (by omega)⟩
/-- rising rows of places from lo on, below n -/
def nAsc (n : Nat) : Nat → List Nat → Prop
  | _, [] => True
  | lo, c :: t => lo ≤ c ∧ c < n ∧ nAsc n (c + 1) t
def nHalL (bs : Nat → Nat) (n : Nat) (cs : List Nat) : Bool := nHal bs n (fun k => cs.elem k)
theorem cntP_congr {f g : Nat → Bool} : ∀ {n : Nat}, (∀ k, k < n → f k = g k) → cntP f n = cntP g n
  | 0, _ => rfl
  | n + 1, h => by
    unfold cntP
    rw [cntP_congr (fun k hk => h k (Nat.lt_succ_of_lt hk)), h n (Nat.lt_succ_self n)]
theorem nPar_congr {c c' : Nat → Bool} {n k : Nat} (hk : k < n) (h : ∀ p, 1 ≤ p → p < n → c p = c' p) : nPar c k = nPar c' k := xs_congr (fun j hj => h (j + 1) (by omega) (by omega))
theorem nHal_congr {bs : Nat → Nat} {n : Nat} {c c' : Nat → Bool} (h : ∀ p, 1 ≤ p → p < n → c p = c' p) : nHal bs n c = nHal bs n c' := by
  have e : ∀ s b, nCnt bs c s b n = nCnt bs c' s b n := fun s b => cntP_congr (fun k hk => by rw [nPar_congr hk h])
  unfold nHal nH1
  simp only [e]
/-- the difference as a sum of signs -/
theorem nCnt_isum (bs : Nat → Nat) (c : Nat → Bool) (s : Nat) : ∀ n : Nat, (nCnt bs c s false n : Int) - nCnt bs c s true n = isum (fun k => if bs k = s then sgn (nPar c k) else 0) n
  | 0 => rfl
  | n + 1 => by
    have ih := nCnt_isum bs c s n
    unfold nCnt at ih ⊢
    unfold cntP isum
    rw [← ih]
    by_cases h : bs n = s
    · rw [if_pos h]
      cases nPar c n <;> simp [h, sgn] <;> omega
    · rw [if_neg h]
      simp [h]
theorem cntP_xor (f g : Nat → Bool) : ∀ n : Nat, cntP (fun k => xor (f k) (g k)) n ≤ cntP f n + cntP g n
  | 0 => Nat.le_refl _
  | n + 1 => by
    have ih := cntP_xor f g n
    unfold cntP
    cases f n <;> cases g n <;> simp <;> omega
theorem cntP_one (a : Nat) : ∀ n : Nat, cntP (fun k => decide (a = k)) n ≤ 1
  | 0 => Nat.zero_le _
  | n + 1 => by
    have ih := cntP_one a n
    unfold cntP
    by_cases h : a = n
    · have h0 : ∀ m, m ≤ n → cntP (fun k => decide (a = k)) m = 0 := by
        intro m
        induction m with
        | zero => exact fun _ => rfl
        | succ m ihm =>
          intro hm
          unfold cntP
          rw [ihm (by omega), decide_eq_false (by omega)]
          rfl
      rw [h0 n (Nat.le_refl n), decide_eq_true h]
      exact Nat.le_refl _
    · rw [decide_eq_false h]
      exact ih
theorem cntP_false {n : Nat} : cntP (fun _ => false) n = 0 := by
  induction n with
  | zero => rfl
  | succ n ih => unfold cntP; rw [ih]; rfl
theorem cntP_xs (a : Nat → Nat) : ∀ (t n : Nat), cntP (fun p => xs (fun i => decide (a i = p)) t) n ≤ t
  | 0, n => by
    show cntP (fun _ => false) n ≤ 0
    rw [cntP_false]
    exact Nat.le_refl _
  | t + 1, n => by
    show cntP (fun p => xor (xs (fun i => decide (a i = p)) t) (decide (a t = p))) n ≤ t + 1
    have h1 := cntP_xor (fun p => xs (fun i => decide (a i = p)) t) (fun p => decide (a t = p)) n
    have h2 := cntP_xs a t n
    have h3 := cntP_one (a t) n
    omega
/-- the places of a set of cuts, rising -/
def nPlaces (c : Nat → Bool) : Nat → Nat → List Nat
  | _, 0 => []
  | lo, d + 1 => match c lo with
    | true => lo :: nPlaces c (lo + 1) d
    | false => nPlaces c (lo + 1) d
theorem nAsc_mono {n : Nat} : ∀ {cs : List Nat} {lo lo' : Nat}, lo' ≤ lo → nAsc n lo cs → nAsc n lo' cs
  | [], _, _, _, _ => trivial
  | _ :: _, _, _, h, hc => ⟨Nat.le_trans h hc.1, hc.2⟩
theorem nPlaces_asc (c : Nat → Bool) {n : Nat} : ∀ (d lo : Nat), lo + d ≤ n → nAsc n lo (nPlaces c lo d)
  | 0, _, _ => trivial
  | d + 1, lo, h => by
    unfold nPlaces
    cases c lo with
    | true => exact ⟨Nat.le_refl lo, by omega, nPlaces_asc c d (lo + 1) (by omega)⟩
    | false => exact nAsc_mono (by omega) (nPlaces_asc c d (lo + 1) (by omega))
theorem nPlaces_mem (c : Nat → Bool) : ∀ (d lo p : Nat), p ∈ nPlaces c lo d ↔ (lo ≤ p ∧ p < lo + d ∧ c p = true)
  | 0, lo, p => ⟨fun h => absurd h List.not_mem_nil, fun h => by omega⟩
  | d + 1, lo, p => by
    unfold nPlaces
    cases hc : c lo with
    | true =>
      rw [List.mem_cons, nPlaces_mem c d (lo + 1) p]
      constructor
      · rintro (rfl | h)
        · exact ⟨Nat.le_refl _, by omega, hc⟩
        · exact ⟨by omega, by omega, h.2.2⟩
      · intro h
        by_cases hp : p = lo
        · exact Or.inl hp
        · exact Or.inr ⟨by omega, by omega, h.2.2⟩
    | false =>
      show p ∈ nPlaces c (lo + 1) d ↔ _
      rw [nPlaces_mem c d (lo + 1) p]
      constructor
      · intro h
        exact ⟨by omega, by omega, h.2.2⟩
      · intro h
        have : p ≠ lo := fun q => by rw [q, hc] at h; exact absurd h.2.2 (by decide)
        exact ⟨by omega, by omega, h.2.2⟩
theorem nPlaces_len (c : Nat → Bool) : ∀ (d lo : Nat), (nPlaces c lo d).length + cntP c lo = cntP c (lo + d)
  | 0, lo => by simp [nPlaces]
  | d + 1, lo => by
    have ih := nPlaces_len c d (lo + 1)
    unfold nPlaces
    rw [show lo + (d + 1) = lo + 1 + d by omega, ← ih]
    show _ = _ + (cntP c lo + cond (c lo) 1 0)
    cases c lo with
    | true => simp only [List.length_cons, cond_true]; omega
    | false => simp only [cond_false]; omega
section FOUR
variable (bs : Nat → Nat) (n : Nat)
/-- the beads, and behind them one of each sort that there are an even number of -/
def fTy : Nat → Nat := fun k => if k < n then bs k else if k < n + 4 ∧ cntP (fun j => decide (bs j = k - n)) n % 2 = 0 then k - n else 4
variable {bs n}
theorem fTy_lt {k : Nat} (h : k < n) : fTy bs n k = bs k := if_pos h
theorem fTy_cnt {i : Nat} (hi : i < 4) : cntP (fun k => decide (fTy bs n k = i)) (n + 4) % 2 = 1 := by
  have e : cntP (fun k => decide (fTy bs n k = i)) n = cntP (fun j => decide (bs j = i)) n := cntP_congr (fun k hk => by rw [fTy_lt hk])
  have hq : ∀ q, q < 4 → fTy bs n (n + q) = if cntP (fun j => decide (bs j = q)) n % 2 = 0 then q else 4 := by
    intro q hq
    unfold fTy
    rw [if_neg (by omega), show n + q - n = q by omega]
    by_cases hc : cntP (fun j => decide (bs j = q)) n % 2 = 0
    · rw [if_pos ⟨by omega, hc⟩, if_pos hc]
    · rw [if_neg (fun z => hc z.2), if_neg hc]
  show (cntP (fun k => decide (fTy bs n k = i)) n + cond (decide (fTy bs n (n + 0) = i)) 1 0 + cond (decide (fTy bs n (n + 1) = i)) 1 0 + cond (decide (fTy bs n (n + 2) = i)) 1 0 + cond (decide (fTy bs n (n + 3) = i)) 1 0) % 2 = 1
  rw [e, hq 0 (by omega), hq 1 (by omega), hq 2 (by omega), hq 3 (by omega)]
  have h4 : ¬ (4 : Nat) = i := by omega
  have one : ∀ q, q < 4 → cond (decide ((if cntP (fun j => decide (bs j = q)) n % 2 = 0 then q else 4) = i)) 1 0 = if q = i ∧ cntP (fun j => decide (bs j = i)) n % 2 = 0 then 1 else 0 := by
    intro q hq4
    by_cases hqi : q = i
    · subst hqi
      by_cases hc : cntP (fun j => decide (bs j = q)) n % 2 = 0
      · rw [if_pos hc, if_pos ⟨rfl, hc⟩, decide_eq_true rfl]; rfl
      · rw [if_neg hc, if_neg (fun z => hc z.2), decide_eq_false h4]; rfl
    · rw [if_neg (show ¬ (q = i ∧ cntP (fun j => decide (bs j = i)) n % 2 = 0) from fun z => hqi z.1)]
      by_cases hc : cntP (fun j => decide (bs j = q)) n % 2 = 0
      · rw [if_pos hc, decide_eq_false hqi]; rfl
      · rw [if_neg hc, decide_eq_false h4]; rfl
  rw [one 0 (by omega), one 1 (by omega), one 2 (by omega), one 3 (by omega)]
  generalize cntP (fun j => decide (bs j = i)) n = a
  rcases (by omega : i = 0 ∨ i = 1 ∨ i = 2 ∨ i = 3) with rfl | rfl | rfl | rfl <;> by_cases ha : a % 2 = 0 <;> simp [ha] <;> omega
theorem xs_le {m k : Nat} : True := trivial
/-- FOUR CUTS ARE ENOUGH -/
theorem nk_four (hs : ∀ k, k < n → bs k < 4) : ∃ cs : List Nat, nAsc n 1 cs ∧ cs.length ≤ 4 ∧ nHalL bs n cs = true := by
  obtain ⟨c, hcn, hc⟩ := nk_exists (n := n + 4) (ty := fTy bs n) (t := 4) (fun i hi => fTy_cnt hi)
  -- the rest of sort i, among the beads
  let R : Nat → Int := fun i => isum (fun k => if bs k = i ∧ k ≠ c i then sgn (nkF 4 c k) else 0) n
  let want : Nat → Bool := fun i => decide (R i = 1)
  let a : Nat → Nat := fun i => if c i < n then (if xor (want i) (nkF 4 c (c i)) = true then c i else c i + 1) else c i
  let s : Nat → Bool := fun k => xs (fun i => decide (a i ≤ k)) 4
  have hty : ∀ i, i < 4 → fTy bs n (c i) = i := fun i hi => (hc i hi).1
  have hdist : ∀ i j, i < 4 → j < 4 → c i = c j → i = j := fun i j hi hj e => by rw [← hty i hi, ← hty j hj, e]
  have ha1 : ∀ i k, k ≠ c i → k < n → decide (a i ≤ k) = decide (c i < k) := by
    intro i k hk hkn
    apply decide_eq_decide.mpr
    show (if c i < n then (if xor (want i) (nkF 4 c (c i)) = true then c i else c i + 1) else c i) ≤ k ↔ c i < k
    by_cases h1 : c i < n
    · rw [if_pos h1]
      by_cases h2 : xor (want i) (nkF 4 c (c i)) = true
      · rw [if_pos h2]; omega
      · rw [if_neg h2]; omega
    · rw [if_neg h1]; omega
  have hs1 : ∀ k, k < n → (∀ i, i < 4 → k ≠ c i) → s k = nkF 4 c k := fun k hk hne => xs_congr (fun i hi => ha1 i k (hne i hi) hk)
  have hs2 : ∀ i, i < 4 → c i < n → s (c i) = want i := by
    intro i hi hin
    have h1 : s (c i) = xor (xs (fun j => decide (j ≠ i) && decide (c j < c i)) 4) (decide (a i ≤ c i)) := by
      have : ∀ m, xs (fun j => decide (a j ≤ c i)) m = xor (xs (fun j => decide (j ≠ i) && decide (a j ≤ c i)) m) (decide (i < m) && decide (a i ≤ c i)) := by
        intro m
        induction m with
        | zero => simp [xs]
        | succ m ih =>
          unfold xs
          rw [ih]
          by_cases hm : m = i
          · subst hm
            simp
          · have : decide (i < m + 1) = decide (i < m) := decide_eq_decide.mpr (by omega)
            rw [this]
            simp [hm]
            cases xs (fun j => decide (j ≠ i) && decide (a j ≤ c i)) m <;> cases decide (i < m) && decide (a i ≤ c i) <;> cases decide (a m ≤ c i) <;> simp_all
      show xs (fun j => decide (a j ≤ c i)) 4 = _
      rw [this 4, decide_eq_true hi, Bool.true_and]
      congr 1
      refine xs_congr (fun j hj => ?_)
      by_cases hji : j = i
      · simp [hji]
      · rw [ha1 j (c i) (fun q => hji (hdist j i hj hi q.symm)) hin]
    have h2 : nkF 4 c (c i) = xs (fun j => decide (j ≠ i) && decide (c j < c i)) 4 := xs_congr (fun j hj => by
      by_cases hji : j = i
      · subst hji; simp
      · simp [hji])
    rw [h1, ← h2]
    have h3 : decide (a i ≤ c i) = xor (want i) (nkF 4 c (c i)) := by
      have ea : a i = if xor (want i) (nkF 4 c (c i)) = true then c i else c i + 1 := if_pos hin
      rw [ea]
      cases hx : xor (want i) (nkF 4 c (c i)) with
      | true => simp
      | false => simp
    rw [h3]
    cases want i <;> cases nkF 4 c (c i) <;> rfl
  -- what each sort's sum is
  have hR : ∀ i, i < 4 → (c i < n → (R i = 0 ∨ R i = 1 ∨ R i = -1)) ∧ (¬ c i < n → R i = 0) := by
    intro i hi
    have hD := (hc i hi).2
    have hsplit : nkD (n + 4) (fTy bs n) (nkF 4 c) i (c i) = R i + ((if fTy bs n (n + 0) = i ∧ n + 0 ≠ c i then sgn (nkF 4 c (n + 0)) else 0) + (if fTy bs n (n + 1) = i ∧ n + 1 ≠ c i then sgn (nkF 4 c (n + 1)) else 0) + (if fTy bs n (n + 2) = i ∧ n + 2 ≠ c i then sgn (nkF 4 c (n + 2)) else 0) + (if fTy bs n (n + 3) = i ∧ n + 3 ≠ c i then sgn (nkF 4 c (n + 3)) else 0)) := by
      show isum _ n + _ + _ + _ + _ = _
      have e : isum (fun k => if fTy bs n k = i ∧ k ≠ c i then sgn (nkF 4 c k) else 0) n = R i := isum_congr (fun k hk => by rw [fTy_lt hk])
      rw [e]
      simp only [Int.add_assoc]
      rfl
    have hq : ∀ q, q < 4 → q ≠ i → ¬ fTy bs n (n + q) = i := by
      intro q hq hqi
      unfold fTy
      rw [if_neg (by omega)]
      by_cases hcc : n + q < n + 4 ∧ cntP (fun j => decide (bs j = n + q - n)) n % 2 = 0
      · rw [if_pos hcc]; omega
      · rw [if_neg hcc]; omega
    have hz : ∀ q, q < 4 → q ≠ i → (if fTy bs n (n + q) = i ∧ n + q ≠ c i then sgn (nkF 4 c (n + q)) else 0) = 0 := fun q h4 hqi => if_neg (fun z => hq q h4 hqi z.1)
    have hsum : R i + (if fTy bs n (n + i) = i ∧ n + i ≠ c i then sgn (nkF 4 c (n + i)) else 0) = 0 := by
      rw [hsplit] at hD
      rcases (by omega : i = 0 ∨ i = 1 ∨ i = 2 ∨ i = 3) with rfl | rfl | rfl | rfl
      · rw [hz 1 (by omega) (by omega), hz 2 (by omega) (by omega), hz 3 (by omega) (by omega)] at hD; omega
      · rw [hz 0 (by omega) (by omega), hz 2 (by omega) (by omega), hz 3 (by omega) (by omega)] at hD; omega
      · rw [hz 0 (by omega) (by omega), hz 1 (by omega) (by omega), hz 3 (by omega) (by omega)] at hD; omega
      · rw [hz 0 (by omega) (by omega), hz 1 (by omega) (by omega), hz 2 (by omega) (by omega)] at hD; omega
    have hpm := sgn_pm (nkF 4 c (n + i))
    constructor
    · intro _
      by_cases hcond : fTy bs n (n + i) = i ∧ n + i ≠ c i
      · rw [if_pos hcond] at hsum; omega
      · rw [if_neg hcond] at hsum; omega
    · intro hnot
      -- the cut bead is the one behind the row
      have h1 := hty i hi
      have h2 := hcn i hi
      have h3 : c i = n + i := by
        obtain ⟨q, hq4, hqe⟩ : ∃ q, q < 4 ∧ c i = n + q := ⟨c i - n, by omega, by omega⟩
        rw [hqe] at h1
        by_cases hqi : q = i
        · rw [hqe, hqi]
        · exact absurd h1 (hq q hq4 hqi)
      rw [if_neg (fun z => z.2 h3.symm)] at hsum
      omega
  have hE : ∀ i, i < 4 → -1 ≤ isum (fun k => if bs k = i then sgn (s k) else 0) n ∧ isum (fun k => if bs k = i then sgn (s k) else 0) n ≤ 1 := by
    intro i hi
    have erest : ∀ k, k < n → bs k = i → k ≠ c i → s k = nkF 4 c k := fun k hk hb hne => hs1 k hk (fun j hj q => by
      have h1 := hty j hj
      rw [← q, fTy_lt hk, hb] at h1
      rw [← h1] at q
      exact hne q)
    by_cases hin : c i < n
    · have hb : bs (c i) = i := by rw [← fTy_lt (bs := bs) hin]; exact hty i hi
      rw [isum_out hin, if_pos hb, hs2 i hi hin]
      have e : isum (fun k => if k = c i then 0 else if bs k = i then sgn (s k) else 0) n = R i := isum_congr (fun k hk => by
        by_cases h1 : k = c i
        · rw [if_pos h1, if_neg (fun z => z.2 h1)]
        · rw [if_neg h1]
          by_cases h2 : bs k = i
          · rw [if_pos h2, if_pos ⟨h2, h1⟩, erest k hk h2 h1]
          · rw [if_neg h2, if_neg (fun z => h2 z.1)])
      rw [e]
      have hr := (hR i hi).1 hin
      show -1 ≤ R i + sgn (decide (R i = 1)) ∧ R i + sgn (decide (R i = 1)) ≤ 1
      by_cases h1 : R i = 1
      · rw [decide_eq_true h1, h1]; decide
      · rw [decide_eq_false h1]
        show -1 ≤ R i + 1 ∧ R i + 1 ≤ 1
        omega
    · have e : isum (fun k => if bs k = i then sgn (s k) else 0) n = R i := isum_congr (fun k hk => by
        have h1 : k ≠ c i := by omega
        by_cases h2 : bs k = i
        · rw [if_pos h2, if_pos ⟨h2, h1⟩, erest k hk h2 h1]
        · rw [if_neg h2, if_neg (fun z => h2 z.1)])
      rw [e, (hR i hi).2 hin]
      decide
  -- the cuts
  let cut : Nat → Bool := fun p => xs (fun i => decide (a i = p)) 4
  have hpar : ∀ k, nPar cut k = xor (s k) (xs (fun i => decide (a i = 0)) 4) := by
    intro k
    show xs (fun j => xs (fun i => decide (a i = j + 1)) 4) k = _
    rw [xs_swap (fun j i => decide (a i = j + 1)) 4 k, ← xs_xor]
    refine xs_congr (fun i hi => ?_)
    have : ∀ m, xs (fun j => decide (a i = j + 1)) m = xor (decide (a i ≤ m)) (decide (a i = 0)) := by
      intro m
      induction m with
      | zero =>
        show false = _
        have : decide (a i ≤ 0) = decide (a i = 0) := decide_eq_decide.mpr (by omega)
        rw [this]
        cases decide (a i = 0) <;> rfl
      | succ m ih =>
        unfold xs
        rw [ih]
        by_cases h1 : a i ≤ m
        · rw [decide_eq_true h1, decide_eq_true (show a i ≤ m + 1 by omega), decide_eq_false (show ¬ a i = m + 1 by omega)]
          cases decide (a i = 0) <;> rfl
        · by_cases h2 : a i = m + 1
          · rw [decide_eq_false h1, decide_eq_true (show a i ≤ m + 1 by omega), decide_eq_true h2, decide_eq_false (show ¬ a i = 0 by omega)]
            rfl
          · rw [decide_eq_false h1, decide_eq_false (show ¬ a i ≤ m + 1 by omega), decide_eq_false h2, decide_eq_false (show ¬ a i = 0 by omega)]
            rfl
    exact this k
  have hcut : nHal bs n cut = true := by
    rw [nHal_iff]
    intro i hi
    have h1 := nCnt_isum bs cut i n
    have h2 : isum (fun k => if bs k = i then sgn (nPar cut k) else 0) n = isum (fun k => if bs k = i then sgn (s k) else 0) n ∨ isum (fun k => if bs k = i then sgn (nPar cut k) else 0) n = - isum (fun k => if bs k = i then sgn (s k) else 0) n := by
      cases hz : xs (fun i => decide (a i = 0)) 4 with
      | false =>
        left
        exact isum_congr (fun k _ => by rw [hpar k, hz, Bool.xor_false])
      | true =>
        right
        rw [← isum_neg]
        refine isum_congr (fun k _ => ?_)
        by_cases h3 : bs k = i
        · rw [if_pos h3, if_pos h3, hpar k, hz, Bool.xor_true, sgn_not]
        · rw [if_neg h3, if_neg h3]; rfl
    have h3 := hE i hi
    omega
  by_cases hn1 : n = 0
  · refine ⟨[], trivial, by decide, ?_⟩
    subst hn1
    unfold nHalL
    rw [nHal_iff]
    intro s _
    exact ⟨Nat.zero_le _, Nat.zero_le _⟩
  · refine ⟨nPlaces cut 1 (n - 1), nPlaces_asc cut (n - 1) 1 (by omega), ?_, ?_⟩
    · have h1 := nPlaces_len cut (n - 1) 1
      have h2 := cntP_xs a 4 (1 + (n - 1))
      have h3 : cntP cut (1 + (n - 1)) ≤ 4 := h2
      omega
    · unfold nHalL
      rw [← hcut]
      refine nHal_congr (fun p h1 h2 => ?_)
      have h3 := nPlaces_mem cut (n - 1) 1 p
      cases hcp : cut p with
      | true =>
        exact List.elem_iff.mpr (h3.mpr ⟨h1, by omega, hcp⟩)
      | false =>
        cases he : List.elem p (nPlaces cut 1 (n - 1)) with
        | false => rfl
        | true =>
          have := (h3.mp (List.elem_iff.mp he)).2.2
          rw [hcp] at this
          cases this
end FOUR
