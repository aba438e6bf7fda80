/-! ===== the necklace: the number of ways to cut one bead of each of t odd sorts, so that all are halved, is odd ===== -/
def xs (f : Nat → Bool) : Nat → Bool
  | 0 => false
  | n + 1 => xor (xs f n) (f n)
theorem xs_congr {f g : Nat → Bool} : ∀ {n : Nat}, (∀ k, k < n → f k = g k) → xs f n = xs g n
  | 0, _ => rfl
  | n + 1, h => by
    unfold xs
    rw [xs_congr (fun k hk => h k (Nat.lt_succ_of_lt hk)), h n (Nat.lt_succ_self n)]
theorem xs_zero {f : Nat → Bool} : ∀ {n : Nat}, (∀ k, k < n → f k = false) → xs f n = false
  | 0, _ => rfl
  | n + 1, h => by
    unfold xs
    rw [xs_zero (fun k hk => h k (Nat.lt_succ_of_lt hk)), h n (Nat.lt_succ_self n)]
    rfl
theorem xs_xor (f g : Nat → Bool) : ∀ n : Nat, xs (fun k => xor (f k) (g k)) n = xor (xs f n) (xs g n)
  | 0 => rfl
  | n + 1 => by
    unfold xs
    rw [xs_xor f g n]
    cases xs f n <;> cases xs g n <;> cases f n <;> cases g n <;> rfl
theorem xs_swap (h : Nat → Nat → Bool) (m : Nat) : ∀ n : Nat, xs (fun x => xs (fun y => h x y) m) n = xs (fun y => xs (fun x => h x y) n) m
  | 0 => (xs_zero (fun _ _ => rfl)).symm
  | n + 1 => by
    show xor (xs (fun x => xs (fun y => h x y) m) n) (xs (fun y => h n y) m) = xs (fun y => xor (xs (fun x => h x y) n) (h n y)) m
    rw [xs_xor, xs_swap h m n]
theorem xs_tel (p : Nat → Bool) : ∀ n : Nat, xs (fun b => xor (p b) (p (b + 1))) n = xor (p 0) (p n)
  | 0 => by
    unfold xs
    cases p 0 <;> rfl
  | n + 1 => by
    unfold xs
    rw [xs_tel p n]
    cases p 0 <;> cases p n <;> cases p (n + 1) <;> rfl
theorem xs_sym {M : Nat → Nat → Bool} (hs : ∀ x y, M x y = M y x) (hd : ∀ x, M x x = false) : ∀ n : Nat, xs (fun x => xs (fun y => M x y) n) n = false
  | 0 => rfl
  | n + 1 => by
    show xor (xs (fun x => xor (xs (fun y => M x y) n) (M x n)) n) (xor (xs (fun y => M n y) n) (M n n)) = false
    rw [xs_xor, xs_sym hs hd n, hd n, xs_congr (f := fun x => M x n) (g := fun y => M n y) (fun k _ => hs k n)]
    cases xs (fun y => M n y) n <;> rfl
def upN (c : Nat → Nat) (i x : Nat) : Nat → Nat := fun j => if j = i then x else c j
theorem upN_self (c : Nat → Nat) (i x : Nat) : upN c i x i = x := if_pos rfl
theorem upN_ne (c : Nat → Nat) {i j : Nat} (x : Nat) (h : j ≠ i) : upN c i x j = c j := if_neg h
theorem upN_comm (c : Nat → Nat) {i j : Nat} (x y : Nat) (h : i ≠ j) : upN (upN c i x) j y = upN (upN c j y) i x := by
  funext k
  unfold upN
  by_cases h1 : k = i
  · have h2 : ¬ k = j := fun q => h (h1.symm.trans q)
    simp [h1, h]
  · simp [h1]
def sA (n : Nat) : Nat → ((Nat → Nat) → Bool) → Bool
  | 0, f => f (fun _ => 0)
  | t + 1, f => xs (fun x => sA n t (fun c => f (upN c t x))) n
theorem sA_congr {n : Nat} {t : Nat} {f g : (Nat → Nat) → Bool} (h : ∀ c, f c = g c) : sA n t f = sA n t g := by
  have : f = g := funext h
  rw [this]
theorem sA_zero {n : Nat} : ∀ {t : Nat} {f : (Nat → Nat) → Bool}, (∀ c, f c = false) → sA n t f = false
  | 0, _, h => h _
  | _ + 1, _, h => xs_zero (fun _ _ => sA_zero (fun _ => h _))
theorem sA_xor {n : Nat} : ∀ (t : Nat) (f g : (Nat → Nat) → Bool), sA n t (fun c => xor (f c) (g c)) = xor (sA n t f) (sA n t g)
  | 0, _, _ => rfl
  | t + 1, f, g => by
    unfold sA
    rw [← xs_xor]
    exact xs_congr (fun x _ => sA_xor t _ _)
theorem sA_xs {n : Nat} (t : Nat) (h : (Nat → Nat) → Nat → Bool) : ∀ m : Nat, sA n t (fun c => xs (fun b => h c b) m) = xs (fun b => sA n t (fun c => h c b)) m
  | 0 => sA_zero (fun _ => rfl)
  | m + 1 => by
    show sA n t (fun c => xor (xs (fun b => h c b) m) (h c m)) = xor (xs (fun b => sA n t (fun c => h c b)) m) (sA n t (fun c => h c m))
    rw [sA_xor, sA_xs t h m]
theorem sA_zero_at {n : Nat} : ∀ {t i : Nat} {f : (Nat → Nat) → Bool}, i < t → (∀ c, xs (fun x => f (upN c i x)) n = false) → sA n t f = false
  | 0, _, _, h, _ => absurd h (Nat.not_lt_zero _)
  | t + 1, i, f, h, hz => by
    by_cases hi : i = t
    · subst hi
      show xs (fun x => sA n i (fun c => f (upN c i x))) n = false
      rw [← sA_xs]
      exact sA_zero hz
    · refine xs_zero (fun x _ => sA_zero_at (i := i) (by omega) (fun c => ?_))
      rw [← hz (upN c t x)]
      exact xs_congr (fun y _ => by rw [upN_comm c y x hi])
/-! sums of signs -/
def isum (f : Nat → Int) : Nat → Int
  | 0 => 0
  | n + 1 => isum f n + f n
theorem isum_congr {f g : Nat → Int} : ∀ {n : Nat}, (∀ k, k < n → f k = g k) → isum f n = isum g n
  | 0, _ => rfl
  | n + 1, h => by
    unfold isum
    rw [isum_congr (fun k hk => h k (Nat.lt_succ_of_lt hk)), h n (Nat.lt_succ_self n)]
theorem isum_neg (f : Nat → Int) : ∀ n : Nat, isum (fun k => - f k) n = - isum f n
  | 0 => rfl
  | n + 1 => by
    unfold isum
    rw [isum_neg f n]
    omega
theorem isum_out {f : Nat → Int} {b : Nat} : ∀ {n : Nat}, b < n → isum f n = isum (fun k => if k = b then 0 else f k) n + f b
  | 0, h => absurd h (Nat.not_lt_zero _)
  | n + 1, h => by
    unfold isum
    by_cases hb : b = n
    · subst hb
      rw [if_pos rfl, isum_congr (f := fun k => if k = b then 0 else f k) (g := f) (fun k hk => if_neg (by omega))]
      omega
    · rw [if_neg (fun q => hb q.symm), isum_out (b := b) (n := n) (by omega)]
      omega
def sgn (b : Bool) : Int := match b with
  | true => -1
  | false => 1
theorem sgn_not (b : Bool) : sgn (!b) = - sgn b := by cases b <;> rfl
theorem sgn_pm (b : Bool) : sgn b = 1 ∨ sgn b = -1 := by cases b <;> simp [sgn]
def cntP (p : Nat → Bool) : Nat → Nat
  | 0 => 0
  | n + 1 => cntP p n + cond (p n) 1 0
theorem isum_par (p s : Nat → Bool) : ∀ n : Nat, (isum (fun k => cond (p k) (sgn (s k)) 0) n - (cntP p n : Int)) % 2 = 0
  | 0 => rfl
  | n + 1 => by
    have ih := isum_par p s n
    show (isum (fun k => cond (p k) (sgn (s k)) 0) n + cond (p n) (sgn (s n)) 0 - ((cntP p n + cond (p n) 1 0 : Nat) : Int)) % 2 = 0
    generalize isum (fun k => cond (p k) (sgn (s k)) 0) n = a at ih ⊢
    have hq := sgn_pm (s n)
    generalize sgn (s n) = q at hq ⊢
    cases p n with
    | false =>
      simp only [cond_false]
      omega
    | true =>
      simp only [cond_true]
      omega
section NKT
variable (n : Nat) (ty : Nat → Nat)
/-- what is above: of the sort i the first person has more than the second one, by the signs s, but for bead ex -/
def nkD (s : Nat → Bool) (i ex : Nat) : Int := isum (fun k => if ty k = i ∧ k ≠ ex then sgn (s k) else 0) n
def nkE (s : Nat → Bool) (i : Nat) : Int := isum (fun k => if ty k = i then sgn (s k) else 0) n
def nkB (t : Nat) (c : Nat → Nat) (s : Nat → Bool) : Bool := decide (∀ i, i < t → (ty (c i) = i ∧ nkD n ty s i (c i) = 0))
def nkF (t : Nat) (c : Nat → Nat) (k : Nat) : Bool := xs (fun j => decide (c j < k)) t
def nkS (t : Nat) (c : Nat → Nat) (g k : Nat) : Bool := xor (nkF t c k) (decide (g ≤ k))
/-- the free cut at gap g: all of t sorts are halved, and the first person has more of sort t -/
def nkP (t : Nat) (c : Nat → Nat) (g : Nat) : Bool := nkB n ty t c (nkS t c g) && decide (0 < nkE n ty (nkS t c g) t)
def nkSol (t : Nat) (c : Nat → Nat) : Bool := nkB n ty t c (nkF t c)
variable {n ty}
theorem nkB_iff {t : Nat} {c : Nat → Nat} {s : Nat → Bool} : nkB n ty t c s = true ↔ ∀ i, i < t → (ty (c i) = i ∧ nkD n ty s i (c i) = 0) := by
  unfold nkB
  rw [decide_eq_true_eq]
theorem nkB_congr {t : Nat} {c : Nat → Nat} {s s' : Nat → Bool} (h : ∀ i, i < t → ∀ k, k < n → ty k = i → k ≠ c i → s k = s' k) : nkB n ty t c s = nkB n ty t c s' := by
  have e : ∀ i, i < t → nkD n ty s i (c i) = nkD n ty s' i (c i) := fun i hi => isum_congr (fun k hk => by
    by_cases hc : ty k = i ∧ k ≠ c i
    · rw [if_pos hc, if_pos hc, h i hi k hk hc.1 hc.2]
    · rw [if_neg hc, if_neg hc])
  rw [Bool.eq_iff_iff, nkB_iff, nkB_iff]
  constructor
  · intro q i hi
    exact ⟨(q i hi).1, by rw [← e i hi]; exact (q i hi).2⟩
  · intro q i hi
    exact ⟨(q i hi).1, by rw [e i hi]; exact (q i hi).2⟩
theorem nkE_congr {i : Nat} {s s' : Nat → Bool} (h : ∀ k, k < n → ty k = i → s k = s' k) : nkE n ty s i = nkE n ty s' i := isum_congr (fun k hk => by
  by_cases hc : ty k = i
  · rw [if_pos hc, if_pos hc, h k hk hc]
  · rw [if_neg hc, if_neg hc])
theorem nkE_par {i : Nat} (s : Nat → Bool) : (nkE n ty s i - (cntP (fun k => decide (ty k = i)) n : Int)) % 2 = 0 := by
  rw [← isum_par (fun k => decide (ty k = i)) s n]
  congr 2
  exact isum_congr (fun k _ => by
    by_cases hc : ty k = i
    · rw [if_pos hc, decide_eq_true hc, cond_true]
    · rw [if_neg hc, decide_eq_false hc, cond_false])
theorem nkE_out {i b : Nat} (s : Nat → Bool) (hb : b < n) (ht : ty b = i) : nkE n ty s i = nkD n ty s i b + sgn (s b) := by
  unfold nkE nkD
  rw [isum_out hb, if_pos ht]
  congr 1
  exact isum_congr (fun k _ => by
    by_cases h1 : k = b
    · rw [if_pos h1, if_neg (fun q => q.2 h1)]
    · rw [if_neg h1]
      by_cases h2 : ty k = i
      · rw [if_pos h2, if_pos ⟨h2, h1⟩]
      · rw [if_neg h2, if_neg (fun q => h2 q.1)])
theorem nkF_succ (t : Nat) (c : Nat → Nat) (b k : Nat) : nkF (t + 1) (upN c t b) k = xor (nkF t c k) (decide (b < k)) := by
  unfold nkF
  show xor (xs _ t) (decide (upN c t b t < k)) = _
  rw [upN_self]
  congr 1
  exact xs_congr (fun j hj => by rw [upN_ne c b (by omega)])
theorem nkS_at1 (t : Nat) (c : Nat → Nat) (b k : Nat) : nkS t c (b + 1) k = nkF (t + 1) (upN c t b) k := by
  rw [nkF_succ]
  rfl
theorem nkS_at0 (t : Nat) (c : Nat → Nat) {b k : Nat} (h : k ≠ b) : nkS t c b k = nkF (t + 1) (upN c t b) k := by
  rw [nkF_succ]
  unfold nkS
  congr 1
  by_cases h1 : b < k
  · rw [decide_eq_true h1, decide_eq_true (by omega)]
  · rw [decide_eq_false h1, decide_eq_false (by omega)]
theorem nkS_at (t : Nat) (c : Nat → Nat) (b : Nat) : nkS t c b b = !(nkF (t + 1) (upN c t b) b) := by
  rw [nkF_succ]
  unfold nkS
  rw [decide_eq_true (Nat.le_refl b), decide_eq_false (Nat.lt_irrefl b)]
  cases nkF t c b <;> rfl
/-- a solution of one sort more is a change of sign at a bead of that sort -/
theorem nk_sol {t : Nat} (hodd : cntP (fun k => decide (ty k = t)) n % 2 = 1) (c : Nat → Nat) {b : Nat} (hb : b < n) :
    nkSol n ty (t + 1) (upN c t b) = (decide (ty b = t) && xor (nkP n ty t c b) (nkP n ty t c (b + 1))) := by
  by_cases ht : ty b = t
  · rw [decide_eq_true ht, Bool.true_and]
    have e1 : nkB n ty t c (nkS t c (b + 1)) = nkB n ty t c (nkF (t + 1) (upN c t b)) := nkB_congr (fun i hi k hk hk2 _ => nkS_at1 t c b k)
    have e0 : nkB n ty t c (nkS t c b) = nkB n ty t c (nkF (t + 1) (upN c t b)) := nkB_congr (fun i hi k hk hk2 _ => nkS_at0 t c (fun q => by rw [q, ht] at hk2; omega))
    have f1 : nkE n ty (nkS t c (b + 1)) t = nkD n ty (nkF (t + 1) (upN c t b)) t b + sgn (nkF (t + 1) (upN c t b) b) := by
      rw [nkE_congr (s' := nkF (t + 1) (upN c t b)) (fun k _ _ => nkS_at1 t c b k), nkE_out _ hb ht]
    have f0 : nkE n ty (nkS t c b) t = nkD n ty (nkF (t + 1) (upN c t b)) t b - sgn (nkF (t + 1) (upN c t b) b) := by
      rw [nkE_out _ hb ht, nkS_at, sgn_not]
      have : nkD n ty (nkS t c b) t b = nkD n ty (nkF (t + 1) (upN c t b)) t b := isum_congr (fun k _ => by
        by_cases hc : ty k = t ∧ k ≠ b
        · rw [if_pos hc, if_pos hc, nkS_at0 t c hc.2]
        · rw [if_neg hc, if_neg hc])
      rw [this]
      omega
    have hpar := nkE_par (n := n) (ty := ty) (i := t) (nkS t c (b + 1))
    rw [f1] at hpar
    unfold nkP
    rw [e1, e0, f1, f0]
    have key : nkSol n ty (t + 1) (upN c t b) = (nkB n ty t c (nkF (t + 1) (upN c t b)) && decide (nkD n ty (nkF (t + 1) (upN c t b)) t b = 0)) := by
      unfold nkSol
      rw [Bool.eq_iff_iff, Bool.and_eq_true, nkB_iff, nkB_iff, decide_eq_true_eq]
      constructor
      · intro q
        refine ⟨fun i hi => ?_, ?_⟩
        · have := q i (by omega)
          rw [upN_ne c b (by omega)] at this
          exact this
        · have := (q t (by omega)).2
          rw [upN_self] at this
          exact this
      · intro q i hi
        by_cases h1 : i = t
        · subst h1
          rw [upN_self]
          exact ⟨ht, q.2⟩
        · rw [upN_ne c b h1]
          exact q.1 i (by omega)
    rw [key]
    cases nkB n ty t c (nkF (t + 1) (upN c t b)) with
    | false => rfl
    | true =>
      simp only [Bool.true_and]
      generalize nkD n ty (nkF (t + 1) (upN c t b)) t b = d at hpar ⊢
      have hq := sgn_pm (nkF (t + 1) (upN c t b) b)
      generalize sgn (nkF (t + 1) (upN c t b) b) = q at hpar hq ⊢
      by_cases h0 : d = 0
      · subst h0
        rw [decide_eq_true (rfl : (0 : Int) = 0)]
        rcases hq with rfl | rfl <;> decide
      · rw [decide_eq_false h0]
        by_cases hp : 0 < d
        · rw [decide_eq_true (show 0 < d + q by omega), decide_eq_true (show 0 < d - q by omega)]; rfl
        · rw [decide_eq_false (show ¬ 0 < d + q by omega), decide_eq_false (show ¬ 0 < d - q by omega)]; rfl
  · rw [decide_eq_false ht, Bool.false_and]
    unfold nkSol
    cases h : nkB n ty (t + 1) (upN c t b) (nkF (t + 1) (upN c t b)) with
    | false => rfl
    | true =>
      rw [nkB_iff] at h
      have := (h t (by omega)).1
      rw [upN_self] at this
      exact absurd this ht
/-- the free cut at either end -/
theorem nk_ends {t : Nat} (hodd : cntP (fun k => decide (ty k = t)) n % 2 = 1) (c : Nat → Nat) : xor (nkP n ty t c 0) (nkP n ty t c n) = nkSol n ty t c := by
  have e1 : nkB n ty t c (nkS t c n) = nkB n ty t c (nkF t c) := nkB_congr (fun i hi k hk _ _ => by
    unfold nkS
    rw [decide_eq_false (by omega)]
    cases nkF t c k <;> rfl)
  have f1 : nkE n ty (nkS t c n) t = nkE n ty (nkF t c) t := nkE_congr (fun k hk _ => by
    unfold nkS
    rw [decide_eq_false (by omega)]
    cases nkF t c k <;> rfl)
  have s0 : ∀ k, nkS t c 0 k = !(nkF t c k) := fun k => by
    unfold nkS
    rw [decide_eq_true (Nat.zero_le k)]
    cases nkF t c k <;> rfl
  have f0 : nkE n ty (nkS t c 0) t = - nkE n ty (nkF t c) t := by
    unfold nkE
    rw [← isum_neg]
    exact isum_congr (fun k _ => by
      by_cases hc : ty k = t
      · rw [if_pos hc, if_pos hc, s0, sgn_not]
      · rw [if_neg hc, if_neg hc]; rfl)
  have d0 : ∀ i ex, nkD n ty (nkS t c 0) i ex = - nkD n ty (nkF t c) i ex := fun i ex => by
    unfold nkD
    rw [← isum_neg]
    exact isum_congr (fun k _ => by
      by_cases hc : ty k = i ∧ k ≠ ex
      · rw [if_pos hc, if_pos hc, s0, sgn_not]
      · rw [if_neg hc, if_neg hc]; rfl)
  have e0 : nkB n ty t c (nkS t c 0) = nkB n ty t c (nkF t c) := by
    rw [Bool.eq_iff_iff, nkB_iff, nkB_iff]
    constructor
    · intro q i hi
      have := q i hi
      rw [d0] at this
      exact ⟨this.1, by omega⟩
    · intro q i hi
      have := q i hi
      rw [d0]
      exact ⟨this.1, by omega⟩
  have hpar := nkE_par (n := n) (ty := ty) (i := t) (nkF t c)
  unfold nkP nkSol
  rw [e1, e0, f1, f0]
  cases nkB n ty t c (nkF t c) with
  | false => rfl
  | true =>
    simp only [Bool.true_and]
    generalize nkE n ty (nkF t c) t = d at hpar ⊢
    by_cases hp : 0 < d
    · rw [decide_eq_false (by omega), decide_eq_true (by omega)]; rfl
    · rw [decide_eq_true (by omega), decide_eq_false (by omega)]; rfl
/-- what does not hang on the cut of sort i -/
def nkR (t i : Nat) (c : Nat → Nat) (k : Nat) : Bool := xs (fun j => decide (j ≠ i) && decide (c j < k)) t
theorem nkF_split {t i : Nat} (hi : i < t) (c : Nat → Nat) (x k : Nat) : nkF t (upN c i x) k = xor (nkR t i c k) (decide (x < k)) := by
  have h : ∀ m, xs (fun j => decide (upN c i x j < k)) m = xor (xs (fun j => decide (j ≠ i) && decide (c j < k)) m) (decide (i < m) && decide (x < k)) := by
    intro m
    induction m with
    | zero => simp [xs]
    | succ m ih =>
      unfold xs
      rw [ih]
      by_cases hm : m = i
      · subst hm
        rw [upN_self]
        simp
      · rw [upN_ne c x hm]
        have : decide (i < m + 1) = decide (i < m) := by
          by_cases h1 : i < m
          · rw [decide_eq_true h1, decide_eq_true (by omega)]
          · rw [decide_eq_false h1, decide_eq_false (by omega)]
        rw [this]
        simp [hm]
        cases xs (fun j => decide (j ≠ i) && decide (c j < k)) m <;> cases decide (i < m) && decide (x < k) <;> cases decide (c m < k) <;> simp_all
  unfold nkF nkR
  rw [h t, decide_eq_true hi, Bool.true_and]
def nkW (t i : Nat) (c : Nat → Nat) (x b k : Nat) : Bool := xor (xor (nkR t i c k) (decide (x < k))) (decide (b < k))
theorem nkW_sym (t i : Nat) (c : Nat → Nat) (x b k : Nat) : nkW t i c x b k = nkW t i c b x k := by
  unfold nkW
  cases nkR t i c k <;> cases decide (x < k) <;> cases decide (b < k) <;> rfl
theorem nkS_W {t i : Nat} (hi : i < t) (c : Nat → Nat) {x b g k : Nat} (hg : g = b ∨ g = b + 1) (hk : k ≠ b) : nkS t (upN c i x) g k = nkW t i c x b k := by
  unfold nkS nkW
  rw [nkF_split hi]
  congr 1
  by_cases h : b < k
  · rw [decide_eq_true h, decide_eq_true (by omega)]
  · rw [decide_eq_false h, decide_eq_false (by omega)]
def nkC (n : Nat) (ty : Nat → Nat) (t i : Nat) (c : Nat → Nat) (w : Nat → Bool) : Bool := decide (∀ j, j < t → j ≠ i → (ty (c j) = j ∧ nkD n ty w j (c j) = 0)) && decide (0 < nkE n ty w t)
def nkX (n : Nat) (ty : Nat → Nat) (i x b : Nat) (w : Nat → Bool) : Int := isum (fun k => if ty k = i ∧ k ≠ x ∧ k ≠ b then sgn (w k) else 0) n
theorem nkP_at {t i : Nat} (hi : i < t) (c : Nat → Nat) {x b g : Nat} (hx : ty x = i) (hb : ty b = i) (hbn : b < n) (hxb : x ≠ b) (hg : g = b ∨ g = b + 1) :
    nkP n ty t (upN c i x) g = (nkC n ty t i c (nkW t i c x b) && decide (nkX n ty i x b (nkW t i c x b) + sgn (nkS t (upN c i x) g b) = 0)) := by
  have e1 : nkE n ty (nkS t (upN c i x) g) t = nkE n ty (nkW t i c x b) t := nkE_congr (fun k _ hk => nkS_W hi c hg (fun q => by rw [q, hb] at hk; omega))
  have e2 : ∀ j, j ≠ i → ∀ ex, nkD n ty (nkS t (upN c i x) g) j ex = nkD n ty (nkW t i c x b) j ex := fun j hj ex => isum_congr (fun k _ => by
    by_cases hc : ty k = j ∧ k ≠ ex
    · rw [if_pos hc, if_pos hc, nkS_W hi c hg (fun q => by rw [q, hb] at hc; exact hj hc.1.symm)]
    · rw [if_neg hc, if_neg hc])
  have e3 : nkD n ty (nkS t (upN c i x) g) i x = nkX n ty i x b (nkW t i c x b) + sgn (nkS t (upN c i x) g b) := by
    unfold nkD nkX
    rw [isum_out hbn, if_pos ⟨hb, fun q => hxb q.symm⟩]
    congr 1
    exact isum_congr (fun k _ => by
      by_cases h1 : k = b
      · rw [if_pos h1, if_neg (fun q => q.2.2 h1)]
      · rw [if_neg h1]
        by_cases h2 : ty k = i ∧ k ≠ x
        · rw [if_pos h2, if_pos ⟨h2.1, h2.2, h1⟩, nkS_W hi c hg h1]
        · rw [if_neg h2, if_neg (fun q => h2 ⟨q.1, q.2.1⟩)])
  unfold nkP nkC
  rw [e1, Bool.eq_iff_iff]
  simp only [Bool.and_eq_true, nkB_iff, decide_eq_true_eq]
  constructor
  · rintro ⟨q, h⟩
    refine ⟨⟨fun j hj hji => ?_, h⟩, ?_⟩
    · have := q j hj
      rw [upN_ne c x hji, e2 j hji] at this
      exact this
    · have := (q i hi).2
      rw [upN_self, e3] at this
      exact this
  · rintro ⟨⟨q, h⟩, h2⟩
    refine ⟨fun j hj => ?_, h⟩
    by_cases hji : j = i
    · subst hji
      rw [upN_self, e3]
      exact ⟨hx, h2⟩
    · rw [upN_ne c x hji, e2 j hji]
      exact q j hj hji
theorem nkP_ty {t i : Nat} (hi : i < t) (c : Nat → Nat) {x g : Nat} (hx : ty x ≠ i) : nkP n ty t (upN c i x) g = false := by
  unfold nkP
  cases h : nkB n ty t (upN c i x) (nkS t (upN c i x) g) with
  | false => rfl
  | true =>
    rw [nkB_iff] at h
    have := (h i hi).1
    rw [upN_self] at this
    exact absurd this hx
/-- beads of a sort that is halved already give nothing, in sum -/
theorem nk_low {t i : Nat} (hi : i < t) (c : Nat → Nat) : xs (fun x => xs (fun b => decide (ty b = i) && xor (nkP n ty t (upN c i x) b) (nkP n ty t (upN c i x) (b + 1))) n) n = false := by
  let M : Nat → Nat → Bool := fun x b => (decide (x < n) && decide (b < n)) && (decide (ty b = i) && xor (nkP n ty t (upN c i x) b) (nkP n ty t (upN c i x) (b + 1)))
  have hM : ∀ x b, M x b = true → (x < n ∧ b < n ∧ ty b = i ∧ ty x = i) := by
    intro x b h
    simp only [M, Bool.and_eq_true, decide_eq_true_eq] at h
    refine ⟨h.1.1, h.1.2, h.2.1, ?_⟩
    apply Classical.byContradiction
    intro hx
    have h2 := h.2.2
    rw [nkP_ty hi c hx, nkP_ty hi c hx] at h2
    cases h2
  have hdiag : ∀ x, M x x = false := by
    intro x
    have : nkP n ty t (upN c i x) x = nkP n ty t (upN c i x) (x + 1) := by
      by_cases hx : ty x = i
      · unfold nkP
        have s1 : ∀ k, k ≠ x → nkS t (upN c i x) x k = nkS t (upN c i x) (x + 1) k := fun k hk => by
          rw [nkS_W hi c (Or.inl rfl) hk, nkS_W hi c (Or.inr rfl) hk]
        rw [nkB_congr (s' := nkS t (upN c i x) (x + 1)) (fun j hj k hk hk2 hk3 => s1 k (fun q => by
          subst q
          have : j = i := by omega
          subst this
          exact hk3 (upN_self c j k).symm)), nkE_congr (s' := nkS t (upN c i x) (x + 1)) (fun k _ hk2 => s1 k (fun q => by rw [q, hx] at hk2; omega))]
      · rw [nkP_ty hi c hx, nkP_ty hi c hx]
    simp only [M]
    rw [this]
    cases nkP n ty t (upN c i x) (x + 1) <;> simp
  have half : ∀ x b, x ≠ b → x < n → b < n → ty x = i → ty b = i → xor (nkP n ty t (upN c i x) b) (nkP n ty t (upN c i x) (b + 1)) = (nkC n ty t i c (nkW t i c x b) && xor (decide (nkX n ty i x b (nkW t i c x b) + 1 = 0)) (decide (nkX n ty i x b (nkW t i c x b) - 1 = 0))) := by
    intro x b hxb hx hb tx tb
    rw [nkP_at hi c tx tb hb hxb (Or.inl rfl), nkP_at hi c tx tb hb hxb (Or.inr rfl)]
    have e : nkS t (upN c i x) b b = !(nkS t (upN c i x) (b + 1) b) := by
      unfold nkS
      rw [decide_eq_true (Nat.le_refl b), decide_eq_false (by omega)]
      cases nkF t (upN c i x) b <;> rfl
    have hq := sgn_pm (nkS t (upN c i x) (b + 1) b)
    rw [e, sgn_not]
    generalize sgn (nkS t (upN c i x) (b + 1) b) = q at hq ⊢
    generalize nkX n ty i x b (nkW t i c x b) = X
    cases nkC n ty t i c (nkW t i c x b) with
    | false => rfl
    | true =>
      simp only [Bool.true_and]
      have h1 : decide (X + -q = 0) = decide (X - q = 0) := decide_eq_decide.mpr (by omega)
      rw [h1]
      rcases hq with rfl | rfl
      · exact Bool.xor_comm _ _
      · have h2 : decide (X - -1 = 0) = decide (X + 1 = 0) := decide_eq_decide.mpr (by omega)
        have h3 : decide (X + -1 = 0) = decide (X - 1 = 0) := decide_eq_decide.mpr (by omega)
        rw [h2, h3]
  have hsym : ∀ x b, M x b = M b x := by
    intro x b
    by_cases hxb : x = b
    · rw [hxb]
    · by_cases hin : (x < n ∧ b < n) ∧ ty x = i ∧ ty b = i
      · simp only [M]
        rw [half x b hxb hin.1.1 hin.1.2 hin.2.1 hin.2.2, half b x (fun q => hxb q.symm) hin.1.2 hin.1.1 hin.2.2 hin.2.1]
        have eW : nkW t i c x b = nkW t i c b x := funext (fun k => nkW_sym t i c x b k)
        have eX : nkX n ty i x b (nkW t i c b x) = nkX n ty i b x (nkW t i c b x) := isum_congr (fun k _ => by
          by_cases h2 : ty k = i ∧ k ≠ x ∧ k ≠ b
          · rw [if_pos h2, if_pos ⟨h2.1, h2.2.2, h2.2.1⟩]
          · rw [if_neg h2, if_neg (fun q => h2 ⟨q.1, q.2.2, q.2.1⟩)])
        rw [eW, eX, decide_eq_true hin.1.1, decide_eq_true hin.1.2, decide_eq_true hin.2.1, decide_eq_true hin.2.2]
      · cases h1 : M x b with
        | true =>
          have := hM x b h1
          exact absurd ⟨⟨this.1, this.2.1⟩, this.2.2.2, this.2.2.1⟩ hin
        | false =>
          cases h2 : M b x with
          | true =>
            have := hM b x h2
            exact absurd ⟨⟨this.2.1, this.1⟩, this.2.2.1, this.2.2.2⟩ hin
          | false => rfl
  have e : xs (fun x => xs (fun b => decide (ty b = i) && xor (nkP n ty t (upN c i x) b) (nkP n ty t (upN c i x) (b + 1))) n) n = xs (fun x => xs (fun b => M x b) n) n := by
    refine xs_congr (fun x hx => xs_congr (fun b hb => ?_))
    simp only [M]
    rw [decide_eq_true hx, decide_eq_true hb]
    rfl
  rw [e]
  exact xs_sym hsym hdiag n
theorem nk_split {t : Nat} (v ub : Nat) (z : Bool) : ∀ _h : (ub ≠ v → z = xs (fun i => decide (ub = i) && z) t), z = xor (decide (ub = v) && z) (xs (fun i => decide (ub = i) && (decide (ub ≠ v) && z)) t) := by
  intro h
  by_cases hv : ub = v
  · rw [decide_eq_true hv, xs_zero (fun i _ => by simp [hv])]
    cases z <;> rfl
  · rw [decide_eq_false hv, Bool.false_and, decide_eq_true hv]
    simp only [Bool.true_and]
    rw [← h hv]
    cases z <;> rfl
/-- one sort more: the same parity -/
theorem nk_step {t : Nat} (hodd : cntP (fun k => decide (ty k = t)) n % 2 = 1) : sA n (t + 1) (nkSol n ty (t + 1)) = sA n t (nkSol n ty t) := by
  have e1 : sA n t (nkSol n ty t) = sA n t (fun c => xs (fun b => xor (nkP n ty t c b) (nkP n ty t c (b + 1))) n) := sA_congr (fun c => by rw [xs_tel, nk_ends hodd])
  have e2 : sA n (t + 1) (nkSol n ty (t + 1)) = sA n t (fun c => xs (fun b => decide (ty b = t) && xor (nkP n ty t c b) (nkP n ty t c (b + 1))) n) := by
    show xs (fun b => sA n t (fun c => nkSol n ty (t + 1) (upN c t b))) n = _
    rw [sA_xs]
    exact xs_congr (fun b hb => sA_congr (fun c => nk_sol hodd c hb))
  have e3 : ∀ c, xs (fun b => xor (nkP n ty t c b) (nkP n ty t c (b + 1))) n = xor (xs (fun b => decide (ty b = t) && xor (nkP n ty t c b) (nkP n ty t c (b + 1))) n) (xs (fun i => xs (fun b => decide (ty b = i) && xor (nkP n ty t c b) (nkP n ty t c (b + 1))) n) t) := by
    intro c
    rw [xs_swap (fun i b => decide (ty b = i) && xor (nkP n ty t c b) (nkP n ty t c (b + 1))) n t, ← xs_xor]
    refine xs_congr (fun b hb => ?_)
    have hone : ∀ m, xs (fun i => decide (ty b = i) && xor (nkP n ty t c b) (nkP n ty t c (b + 1))) m = (decide (ty b < m) && xor (nkP n ty t c b) (nkP n ty t c (b + 1))) := by
      intro m
      induction m with
      | zero => simp [xs]
      | succ m ih =>
        unfold xs
        rw [ih]
        by_cases h1 : ty b = m
        · rw [decide_eq_false (show ¬ ty b < m by omega), decide_eq_true h1, decide_eq_true (show ty b < m + 1 by omega)]
          simp
        · rw [decide_eq_false h1]
          by_cases h2 : ty b < m
          · rw [decide_eq_true h2, decide_eq_true (show ty b < m + 1 by omega)]
            simp
          · rw [decide_eq_false h2, decide_eq_false (show ¬ ty b < m + 1 by omega)]
            simp
    rw [hone t]
    by_cases h1 : ty b = t
    · rw [decide_eq_true h1, decide_eq_false (by omega)]
      simp
    · rw [decide_eq_false h1]
      by_cases h2 : ty b < t
      · rw [decide_eq_true h2]
        simp
      · rw [decide_eq_false h2]
        -- a neutral bead: nothing changes
        have s1 : ∀ k, k ≠ b → nkS t c b k = nkS t c (b + 1) k := fun k hk => by
          rw [nkS_at0 t c hk, nkS_at1]
        have : nkP n ty t c b = nkP n ty t c (b + 1) := by
          unfold nkP
          rw [nkB_congr (s' := nkS t c (b + 1)) (fun j hj k hk hk2 hk3 => s1 k (fun q => by rw [q] at hk2; omega)), nkE_congr (s' := nkS t c (b + 1)) (fun k _ hk2 => s1 k (fun q => by rw [q] at hk2; omega))]
        rw [this]
        simp
  rw [e1, e2, sA_congr e3, sA_xor, sA_xs (h := fun c i => xs (fun b => decide (ty b = i) && xor (nkP n ty t c b) (nkP n ty t c (b + 1))) n)]
  rw [xs_zero (n := t) (fun i hi => sA_zero_at hi (fun c => nk_low hi c))]
  simp
theorem nk_odd : ∀ {t : Nat}, (∀ i, i < t → cntP (fun k => decide (ty k = i)) n % 2 = 1) → sA n t (nkSol n ty t) = true
  | 0, _ => by
    show nkSol n ty 0 (fun _ => 0) = true
    unfold nkSol
    rw [nkB_iff]
    exact fun i hi => absurd hi (Nat.not_lt_zero _)
  | t + 1, h => by
    rw [nk_step (h t (Nat.lt_succ_self t))]
    exact nk_odd (fun i hi => h i (Nat.lt_succ_of_lt hi))
theorem sA_some {n : Nat} : ∀ {t : Nat} {f : (Nat → Nat) → Bool}, sA n t f = true → ∃ c, (∀ i, i < t → c i < n) ∧ f c = true
  | 0, f, h => ⟨_, fun i hi => absurd hi (Nat.not_lt_zero _), h⟩
  | t + 1, f, h => by
    have : ∀ m, xs (fun x => sA n t (fun c => f (upN c t x))) m = true → ∃ x, x < m ∧ sA n t (fun c => f (upN c t x)) = true := by
      intro m
      induction m with
      | zero => intro h; cases h
      | succ m ih =>
        intro h
        unfold xs at h
        cases h1 : sA n t (fun c => f (upN c t m)) with
        | true => exact ⟨m, Nat.lt_succ_self m, h1⟩
        | false =>
          rw [h1] at h
          obtain ⟨x, hx, h2⟩ := ih (by simpa using h)
          exact ⟨x, Nat.lt_succ_of_lt hx, h2⟩
    obtain ⟨x, hx, h1⟩ := this n h
    obtain ⟨c, hc, h2⟩ := sA_some h1
    refine ⟨upN c t x, fun i hi => ?_, h2⟩
    by_cases hit : i = t
    · subst hit
      rw [upN_self]
      exact hx
    · rw [upN_ne c x hit]
      exact hc i (by omega)
/-- there is a way to cut -/
theorem nk_exists {t : Nat} (h : ∀ i, i < t → cntP (fun k => decide (ty k = i)) n % 2 = 1) : ∃ c : Nat → Nat, (∀ i, i < t → c i < n) ∧ ∀ i, i < t → (ty (c i) = i ∧ nkD n ty (nkF t c) i (c i) = 0) := by
  obtain ⟨c, h1, h2⟩ := sA_some (nk_odd h)
  exact ⟨c, h1, nkB_iff.mp h2⟩
end NKT
