/-! ===== sharings of rooms, by number ===== -/
/-- the room of person k in sharing x -/
def dg (n x k : Nat) : Nat := x / n ^ (n - 1 - k) % n
theorem dg_lt {n : Nat} (hn : 1 ≤ n) (x k : Nat) : dg n x k < n := Nat.mod_lt _ (by omega)
/-- the rooms of the last j people, as bits -/
def uM (n x : Nat) : Nat → Nat
  | 0 => 0
  | j + 1 => uM n x j ||| 2 ^ (dg n x (n - 1 - j))
def isP (n x : Nat) : Bool := uM n x n == 2 ^ n - 1
def PL (n : Nat) : List Nat := (List.range (n ^ n)).filter (isP n)
def injB (n x : Nat) : Bool := (List.range n).all (fun k => (List.range n).all (fun k' => !(dg n x k == dg n x k') || k == k'))
def surB (n x : Nat) : Bool := (List.range n).all (fun v => (List.range n).any (fun k => dg n x k == v))
def perB (n x : Nat) : Bool := (isP n x == injB n x) && (!isP n x || surB n x)
theorem per_chk : ∀ n : Nat, n < 6 → (List.range (n ^ n)).all (perB n) = true := by decide +kernel
theorem per_at {n x : Nat} (hn : n ≤ 5) (hx : x < n ^ n) : isP n x = injB n x ∧ (isP n x = true → surB n x = true) := by
  have h := List.all_eq_true.mp (per_chk n (by omega)) x (List.mem_range.mpr hx)
  unfold perB at h
  rw [Bool.and_eq_true, beq_iff_eq] at h
  refine ⟨h.1, fun hp => ?_⟩
  have h2 := h.2
  rw [hp] at h2
  exact h2
theorem injB_iff {n x : Nat} : injB n x = true ↔ ∀ k k', k < n → k' < n → dg n x k = dg n x k' → k = k' := by
  unfold injB
  rw [List.all_eq_true]
  constructor
  · intro h k k' hk hk' e
    have h1 := List.all_eq_true.mp (h k (List.mem_range.mpr hk)) k' (List.mem_range.mpr hk')
    rw [e] at h1
    simpa using h1
  · intro h k hk
    rw [List.all_eq_true]
    intro k' hk'
    have h1 := h k k' (List.mem_range.mp hk) (List.mem_range.mp hk')
    by_cases e : dg n x k = dg n x k'
    · simp [h1 e]
    · simp [e]
theorem surB_of {n x : Nat} (h : surB n x = true) {v : Nat} (hv : v < n) : ∃ k, k < n ∧ dg n x k = v := by
  unfold surB at h
  have h1 := List.all_eq_true.mp h v (List.mem_range.mpr hv)
  obtain ⟨k, hk, e⟩ := List.any_eq_true.mp h1
  exact ⟨k, List.mem_range.mp hk, by simpa using e⟩
/-- every sharing has a number -/
theorem dg_all {n : Nat} (hn1 : 1 ≤ n) (hn : n ≤ 5) (q : Nat → Nat) (hq : ∀ k, k < n → q k < n) : ∃ x, x < n ^ n ∧ ∀ k, k < n → dg n x k = q k := by
  rcases (by omega : n = 1 ∨ n = 2 ∨ n = 3 ∨ n = 4 ∨ n = 5) with rfl | rfl | rfl | rfl | rfl
  · have h0 := hq 0 (by omega)
    refine ⟨q 0, by omega, fun k hk => ?_⟩
    obtain rfl : k = 0 := by omega
    show q 0 / 1 % 1 = q 0
    omega
  · have h0 := hq 0 (by omega)
    have h1 := hq 1 (by omega)
    refine ⟨q 0 * 2 + q 1, by omega, fun k hk => ?_⟩
    rcases (by omega : k = 0 ∨ k = 1) with rfl | rfl
    · show (q 0 * 2 + q 1) / 2 % 2 = q 0
      omega
    · show (q 0 * 2 + q 1) / 1 % 2 = q 1
      omega
  · have h0 := hq 0 (by omega)
    have h1 := hq 1 (by omega)
    have h2 := hq 2 (by omega)
    refine ⟨q 0 * 9 + q 1 * 3 + q 2, by omega, fun k hk => ?_⟩
    rcases (by omega : k = 0 ∨ k = 1 ∨ k = 2) with rfl | rfl | rfl
    · show (q 0 * 9 + q 1 * 3 + q 2) / 9 % 3 = q 0
      omega
    · show (q 0 * 9 + q 1 * 3 + q 2) / 3 % 3 = q 1
      omega
    · show (q 0 * 9 + q 1 * 3 + q 2) / 1 % 3 = q 2
      omega
  · have h0 := hq 0 (by omega)
    have h1 := hq 1 (by omega)
    have h2 := hq 2 (by omega)
    have h3 := hq 3 (by omega)
    refine ⟨q 0 * 64 + q 1 * 16 + q 2 * 4 + q 3, by omega, fun k hk => ?_⟩
    rcases (by omega : k = 0 ∨ k = 1 ∨ k = 2 ∨ k = 3) with rfl | rfl | rfl | rfl
    · show (q 0 * 64 + q 1 * 16 + q 2 * 4 + q 3) / 64 % 4 = q 0
      omega
    · show (q 0 * 64 + q 1 * 16 + q 2 * 4 + q 3) / 16 % 4 = q 1
      omega
    · show (q 0 * 64 + q 1 * 16 + q 2 * 4 + q 3) / 4 % 4 = q 2
      omega
    · show (q 0 * 64 + q 1 * 16 + q 2 * 4 + q 3) / 1 % 4 = q 3
      omega
  · have h0 := hq 0 (by omega)
    have h1 := hq 1 (by omega)
    have h2 := hq 2 (by omega)
    have h3 := hq 3 (by omega)
    have h4 := hq 4 (by omega)
    refine ⟨q 0 * 625 + q 1 * 125 + q 2 * 25 + q 3 * 5 + q 4, by omega, fun k hk => ?_⟩
    rcases (by omega : k = 0 ∨ k = 1 ∨ k = 2 ∨ k = 3 ∨ k = 4) with rfl | rfl | rfl | rfl | rfl
    · show (q 0 * 625 + q 1 * 125 + q 2 * 25 + q 3 * 5 + q 4) / 625 % 5 = q 0
      omega
    · show (q 0 * 625 + q 1 * 125 + q 2 * 25 + q 3 * 5 + q 4) / 125 % 5 = q 1
      omega
    · show (q 0 * 625 + q 1 * 125 + q 2 * 25 + q 3 * 5 + q 4) / 25 % 5 = q 2
      omega
    · show (q 0 * 625 + q 1 * 125 + q 2 * 25 + q 3 * 5 + q 4) / 5 % 5 = q 3
      omega
    · show (q 0 * 625 + q 1 * 125 + q 2 * 25 + q 3 * 5 + q 4) / 1 % 5 = q 4
      omega
theorem PL_mem {n x : Nat} : x ∈ PL n ↔ x < n ^ n ∧ isP n x = true := by
  unfold PL
  rw [List.mem_filter, List.mem_range]
/-! the best sharing: the first of the greatest sum -/
def sW (W : Nat → Nat → Nat) (n x : Nat) : Nat := sm (fun k => W k (dg n x k)) n
def bSt (W : Nat → Nat → Nat) (n : Nat) (o : Option Nat) (x : Nat) : Option Nat := match o with
  | none => some x
  | some y => if sW W n y < sW W n x then some x else some y
def bF (W : Nat → Nat → Nat) (n : Nat) (l : List Nat) : Option Nat := l.foldl (bSt W n) none
theorem bF_app (W : Nat → Nat → Nat) (n : Nat) (l : List Nat) (x : Nat) : bF W n (l ++ [x]) = bSt W n (bF W n l) x := by
  unfold bF
  rw [List.foldl_append]
  rfl
theorem bFo {W : Nat → Nat → Nat} {n : Nat} : ∀ (l : List Nat) (o : Option Nat), (∀ y, o = some y → y ∈ l → True) → ∀ z, l.foldl (bSt W n) o = some z → (some z = o ∨ z ∈ l) ∧ (∀ y, o = some y → sW W n y ≤ sW W n z) ∧ (∀ x, x ∈ l → sW W n x ≤ sW W n z)
  | [], o, _, z, h => ⟨Or.inl h.symm, fun y hy => by
      have h : o = some z := h
      rw [h] at hy
      cases hy
      exact Nat.le_refl _, fun x hx => by cases hx⟩
  | a :: l, o, _, z, h => by
    have h : l.foldl (bSt W n) (bSt W n o a) = some z := h
    obtain ⟨h1, h2, h3⟩ := bFo l (bSt W n o a) (fun _ _ _ => trivial) z h
    cases o with
    | none =>
      have hb : bSt W n none a = some a := rfl
      rw [hb] at h1 h2
      refine ⟨Or.inr ?_, fun y hy => (by cases hy), fun x hx => ?_⟩
      · rcases h1 with e | e
        · cases e; exact List.mem_cons_self
        · exact List.mem_cons_of_mem _ e
      · rcases List.mem_cons.mp hx with rfl | hx
        · exact h2 _ rfl
        · exact h3 x hx
    | some y =>
      have hb : bSt W n (some y) a = if sW W n y < sW W n a then some a else some y := rfl
      rw [hb] at h1 h2
      by_cases q : sW W n y < sW W n a
      · rw [if_pos q] at h1 h2
        have h4 := h2 a rfl
        refine ⟨Or.inr ?_, fun y' hy => (by cases hy; omega), fun x hx => ?_⟩
        · rcases h1 with e | e
          · cases e; exact List.mem_cons_self
          · exact List.mem_cons_of_mem _ e
        · rcases List.mem_cons.mp hx with rfl | hx
          · exact h4
          · exact h3 x hx
      · rw [if_neg q] at h1 h2
        have h4 := h2 y rfl
        refine ⟨?_, fun y' hy => (by cases hy; omega), fun x hx => ?_⟩
        · rcases h1 with e | e
          · exact Or.inl e
          · exact Or.inr (List.mem_cons_of_mem _ e)
        · rcases List.mem_cons.mp hx with rfl | hx
          · omega
          · exact h3 x hx
theorem bSt_some (W : Nat → Nat → Nat) (n : Nat) (o : Option Nat) (x : Nat) : ∃ z, bSt W n o x = some z := by
  cases o with
  | none => exact ⟨x, rfl⟩
  | some y =>
    show ∃ z, (if sW W n y < sW W n x then some x else some y) = some z
    by_cases q : sW W n y < sW W n x
    · exact ⟨x, if_pos q⟩
    · exact ⟨y, if_neg q⟩
theorem bF_some {W : Nat → Nat → Nat} {n : Nat} : ∀ (l : List Nat) (o : Option Nat), l ≠ [] → ∃ z, l.foldl (bSt W n) o = some z
  | [], _, h => absurd rfl h
  | [a], o, _ => bSt_some W n o a
  | a :: b :: l, o, _ => bF_some (b :: l) (bSt W n o a) (by simp)
theorem PL_ne' : ∀ n : Nat, n < 6 → 1 ≤ n → (PL n).isEmpty = false := by decide +kernel
theorem PL_ne (n : Nat) (h1 : 1 ≤ n) (h2 : n < 6) : PL n ≠ [] := fun e => by
  have := PL_ne' n h2 h1
  rw [e] at this
  cases this
/-- the number of the best sharing -/
def bX (W : Nat → Nat → Nat) (n : Nat) : Nat := (bF W n (PL n)).getD 0
theorem bX_eq {W : Nat → Nat → Nat} {n : Nat} (hn1 : 1 ≤ n) (hn : n ≤ 5) : bF W n (PL n) = some (bX W n) := by
  obtain ⟨z, hz⟩ := bF_some (W := W) (n := n) (PL n) none (PL_ne n hn1 (by omega))
  have hz : bF W n (PL n) = some z := hz
  unfold bX
  rw [hz]
  rfl
theorem bX_spec {W : Nat → Nat → Nat} {n : Nat} (hn1 : 1 ≤ n) (hn : n ≤ 5) : bX W n ∈ PL n ∧ ∀ x, x ∈ PL n → sW W n x ≤ sW W n (bX W n) := by
  obtain ⟨h1, h2, h3⟩ := bFo (PL n) none (fun _ _ _ => trivial) (bX W n) (bX_eq (W := W) hn1 hn)
  refine ⟨?_, h3⟩
  rcases h1 with e | e
  · cases e
  · exact e
/-- the room of person k in the best sharing -/
def ow (W : Nat → Nat → Nat) (n k : Nat) : Nat := dg n (bX W n) k
theorem ow_lt {W : Nat → Nat → Nat} {n : Nat} (hn1 : 1 ≤ n) (k : Nat) : ow W n k < n := dg_lt hn1 _ k
theorem ow_inj {W : Nat → Nat → Nat} {n : Nat} (hn1 : 1 ≤ n) (hn : n ≤ 5) {k k' : Nat} (hk : k < n) (hk' : k' < n) (e : ow W n k = ow W n k') : k = k' := by
  have h := PL_mem.mp (bX_spec (W := W) hn1 hn).1
  have h2 := (per_at hn h.1).1
  rw [h.2] at h2
  exact injB_iff.mp h2.symm k k' hk hk' e
theorem ow_sur {W : Nat → Nat → Nat} {n : Nat} (hn1 : 1 ≤ n) (hn : n ≤ 5) {v : Nat} (hv : v < n) : ∃ k, k < n ∧ ow W n k = v := by
  have h := PL_mem.mp (bX_spec (W := W) hn1 hn).1
  exact surB_of ((per_at hn h.1).2 h.2) hv
/-- what person i would lose with the room of person j -/
def cst (W : Nat → Nat → Nat) (n i j : Nat) : Int := (W i (ow W n i) : Int) - (W i (ow W n j) : Int)
theorem cst_0 (W : Nat → Nat → Nat) (n i : Nat) : cst W n i i = 0 := by
  unfold cst
  omega
theorem cst_noGain (W : Nat → Nat → Nat) {n : Nat} (hn1 : 1 ≤ n) (hn : n ≤ 5) : noGain n (cst W n) := by
  intro g hg hi
  obtain ⟨x, hx, hd⟩ := dg_all hn1 hn (fun k => ow W n (g k)) (fun k _ => ow_lt hn1 _)
  have hP : isP n x = true := by
    rw [(per_at hn hx).1, injB_iff]
    intro k k' hk hk' e
    rw [hd k hk, hd k' hk'] at e
    exact hi k k' hk hk' (ow_inj hn1 hn (hg k hk) (hg k' hk') e)
  have h1 := (bX_spec (W := W) hn1 hn).2 x (PL_mem.mpr ⟨hx, hP⟩)
  have h2 : smZ (fun k => cst W n k (g k)) n = smZ (fun k => (W k (ow W n k) : Int)) n - smZ (fun k => (W k (ow W n (g k)) : Int)) n := smZ_sub _ _ n
  have h3 : smZ (fun k => (W k (ow W n k) : Int)) n = ((sW W n (bX W n) : Nat) : Int) := smZ_cast _ n
  have h4 : smZ (fun k => (W k (ow W n (g k)) : Int)) n = ((sW W n x : Nat) : Int) := by
    rw [smZ_cast (fun k => W k (ow W n (g k))) n]
    congr 1
    refine sm_congr (fun k hk => ?_)
    show W k (ow W n (g k)) = W k (dg n x k)
    rw [hd k hk]
  rw [h2, h3, h4]
  omega
/-- how far below the top the rent of person i's room lies -/
def dn (W : Nat → Nat → Nat) (n i : Nat) : Int := dW n (cst W n) n i
theorem dn_fix {W : Nat → Nat → Nat} {n : Nat} (hn1 : 1 ≤ n) (hn : n ≤ 5) {i j : Nat} (hi : i < n) (hj : j < n) : dn W n i ≤ cst W n i j + dn W n j := dW_fix hn1 (fun i _ => cst_0 W n i) (cst_noGain W hn1 hn) hi hj
theorem dn_np {W : Nat → Nat → Nat} {n : Nat} {i : Nat} (hi : i < n) : dn W n i ≤ 0 := dW_np (fun i _ => cst_0 W n i) hi n
theorem dn_low {W : Nat → Nat → Nat} {n : Nat} (hn1 : 1 ≤ n) (hn : n ≤ 5) (hW : ∀ i j, i < n → j < n → W i j ≤ 1000) {i : Nat} (hi : i < n) : -5000 ≤ dn W n i := by
  have h := dW_low (c := cst W n) hn1 (M := 1000) (fun i j hi hj => by
    have h1 := hW i (ow W n i) hi (ow_lt hn1 i)
    have h2 := hW i (ow W n j) hi (ow_lt hn1 j)
    unfold cst
    omega) n i hi
  unfold dn
  omega
/-- the person of a room -/
def inv (W : Nat → Nat → Nat) (n r : Nat) : Nat := (fI (ow W n) r n).getD 0
theorem inv_ow {W : Nat → Nat → Nat} {n : Nat} (hn1 : 1 ≤ n) (hn : n ≤ 5) {k : Nat} (hk : k < n) : inv W n (ow W n k) = k := by
  unfold inv
  cases hf : fI (ow W n) (ow W n k) n with
  | none => exact absurd rfl (fI_none hf k hk)
  | some m =>
    obtain ⟨a1, a2⟩ := fI_some hf
    exact ow_inj hn1 hn a1 hk a2
theorem inv_lt {W : Nat → Nat → Nat} {n : Nat} (hn1 : 1 ≤ n) (hn : n ≤ 5) {r : Nat} (hr : r < n) : inv W n r < n ∧ ow W n (inv W n r) = r := by
  obtain ⟨k, hk, e⟩ := ow_sur (W := W) hn1 hn hr
  rw [← e, inv_ow hn1 hn hk]
  exact ⟨hk, rfl⟩
/-- how far below the top the rent of room r lies -/
def bl (W : Nat → Nat → Nat) (n r : Nat) : Int := dn W n (inv W n r)
theorem bl_ow {W : Nat → Nat → Nat} {n : Nat} (hn1 : 1 ≤ n) (hn : n ≤ 5) {k : Nat} (hk : k < n) : bl W n (ow W n k) = dn W n k := by
  unfold bl
  rw [inv_ow hn1 hn hk]
theorem bl_rng {W : Nat → Nat → Nat} {n : Nat} (hn1 : 1 ≤ n) (hn : n ≤ 5) (hW : ∀ i j, i < n → j < n → W i j ≤ 1000) {r : Nat} (hr : r < n) : -5000 ≤ bl W n r ∧ bl W n r ≤ 0 := ⟨dn_low hn1 hn hW (inv_lt hn1 hn hr).1, dn_np (inv_lt hn1 hn hr).1⟩
/-- the rent of a room, n times as great -/
def prc (W : Nat → Nat → Nat) (n rent r : Nat) : Int := (n : Int) * bl W n r + (rent : Int) - smZ (bl W n) n
/-! the next sharing, as the class makes it -/
def fT (tr : Nat → Nat) : Nat → Nat
  | 0 => 0
  | m + 1 => if tr m ≤ tr (m + 1) then m + 1 else fT tr m
def fG (tr : Nat → Nat) (t : Nat) : Nat → Nat
  | 0 => 0
  | g + 1 => if g + 1 ≤ t then g + 1 else if tr t ≤ tr (g + 1) then g + 1 else fG tr t g
def swp (tr : Nat → Nat) (a b : Nat) : Nat → Nat := fun j => if j = b then tr a else if j = a then tr b else tr j
def fR : Nat → (Nat → Nat) → Nat → Nat → (Nat → Nat)
  | 0, tr, _, _ => tr
  | f + 1, tr, lo, hi => if hi ≤ lo then tr else fR f (swp tr lo hi) (lo + 1) (hi - 1)
def nxP (n : Nat) (tr : Nat → Nat) : Option (Nat → Nat) := match fT tr (n - 1) with
  | 0 => none
  | t + 1 => some (fR 5 (swp tr t (fG tr t (n - 1))) (t + 1) (n - 1))
def chn (n : Nat) : List Nat → Bool
  | [] => true
  | x :: r => (match r with
    | [] => (match nxP n (dg n x) with
      | none => true
      | some _ => false)
    | y :: _ => (match nxP n (dg n x) with
      | none => false
      | some t => (List.range n).all (fun k => t k == dg n y k))) && chn n r
theorem chn_all : ∀ n : Nat, 1 ≤ n → n < 6 → chn n (PL n) = true ∧ (PL n).length ≤ 120 ∧ ∃ x r, PL n = x :: r ∧ ∀ k, k < n → dg n x k = k := by
  have h : ∀ n : Nat, n < 6 → 1 ≤ n → (chn n (PL n) && Nat.ble (PL n).length 120 && (match PL n with | [] => false | x :: _ => (List.range n).all (fun k => dg n x k == k))) = true := by decide +kernel
  intro n h1 h2
  have g := h n h2 h1
  rw [Bool.and_eq_true, Bool.and_eq_true] at g
  refine ⟨g.1.1, Nat.le_of_ble_eq_true g.1.2, ?_⟩
  have g2 := g.2
  cases hp : PL n with
  | nil => rw [hp] at g2; cases g2
  | cons x r =>
    rw [hp] at g2
    exact ⟨x, r, rfl, fun k hk => by
      have := List.all_eq_true.mp g2 k (List.mem_range.mpr hk)
      simpa using this⟩
/-- the step from one sharing to the next -/
theorem chn_at {n : Nat} : ∀ (l : List Nat), chn n l = true → ∀ (t : Nat) (x : Nat), l[t]? = some x → (t + 1 = l.length → nxP n (dg n x) = none) ∧ (t + 1 < l.length → ∃ y tr, l[t + 1]? = some y ∧ nxP n (dg n x) = some tr ∧ ∀ k, k < n → tr k = dg n y k)
  | [], _, t, x, hx => by simp at hx
  | [a], h, t, x, hx => by
    cases t with
    | zero =>
      cases hx
      refine ⟨fun _ => ?_, fun q => absurd q (by simp)⟩
      unfold chn at h
      rw [Bool.and_eq_true] at h
      have h1 := h.1
      cases hn : nxP n (dg n a) with
      | none => rfl
      | some _ =>
        simp only [hn] at h1
        cases h1
    | succ t => simp at hx
  | a :: b :: r, h, t, x, hx => by
    unfold chn at h
    rw [Bool.and_eq_true] at h
    cases t with
    | zero =>
      cases hx
      refine ⟨fun q => by simp at q, fun _ => ⟨b, ?_⟩⟩
      have h1 := h.1
      cases hn : nxP n (dg n a) with
      | none =>
        simp only [hn] at h1
        cases h1
      | some tr =>
        simp only [hn] at h1
        refine ⟨tr, rfl, rfl, fun k hk => ?_⟩
        have := List.all_eq_true.mp h1 k (List.mem_range.mpr hk)
        simpa using this
    | succ t =>
      have hx : (b :: r)[t]? = some x := hx
      obtain ⟨g1, g2⟩ := chn_at (b :: r) h.2 t x hx
      refine ⟨fun q => g1 (by simpa using q), fun q => ?_⟩
      exact g2 (by simpa using q)
