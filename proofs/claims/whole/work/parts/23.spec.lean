/-! ===== rows of cuts ===== -/
/-- all rising rows of m places out of d from lo on, by their numbers -/
def cmb : Nat → Nat → Nat → List (List Nat)
  | 0, _, _ => [[]]
  | _ + 1, 0, _ => []
  | m + 1, d + 1, lo => (cmb m d (lo + 1)).map (fun t => lo :: t) ++ cmb (m + 1) d (lo + 1)
theorem cmb_short : ∀ {m d lo : Nat}, d < m → cmb m d lo = []
  | 0, _, _, h => absurd h (Nat.not_lt_zero _)
  | _ + 1, 0, _, _ => rfl
  | m + 1, d + 1, lo, h => by
    unfold cmb
    rw [cmb_short (m := m) (by omega), cmb_short (m := m + 1) (by omega)]
    rfl
theorem cmb_mem : ∀ {m d lo : Nat} {cs : List Nat}, cs ∈ cmb m d lo ↔ cs.length = m ∧ nAsc (lo + d) lo cs
  | 0, d, lo, cs => by
    unfold cmb
    rw [List.mem_singleton]
    constructor
    · rintro rfl
      exact ⟨rfl, trivial⟩
    · intro h
      exact List.length_eq_zero_iff.mp h.1
  | m + 1, 0, lo, cs => by
    constructor
    · intro h
      exact absurd h List.not_mem_nil
    · rintro ⟨h1, h2⟩
      cases cs with
      | nil => cases h1
      | cons c t =>
        have := h2.1
        have := h2.2.1
        omega
  | m + 1, d + 1, lo, cs => by
    unfold cmb
    rw [List.mem_append, List.mem_map, cmb_mem (m := m + 1) (d := d)]
    constructor
    · rintro (⟨t, ht, rfl⟩ | h)
      · rw [cmb_mem] at ht
        refine ⟨by rw [List.length_cons, ht.1], Nat.le_refl lo, by omega, ?_⟩
        rw [show lo + (d + 1) = lo + 1 + d by omega]
        exact ht.2
      · refine ⟨h.1, ?_⟩
        rw [show lo + (d + 1) = lo + 1 + d by omega]
        exact nAsc_mono (by omega) h.2
    · rintro ⟨h1, h2⟩
      cases cs with
      | nil => cases h1
      | cons c t =>
        obtain ⟨a1, a2, a3⟩ := h2
        rw [show lo + (d + 1) = lo + 1 + d by omega] at a2 a3
        by_cases hc : c = lo
        · subst hc
          left
          refine ⟨t, ?_, rfl⟩
          rw [cmb_mem]
          exact ⟨by simpa using h1, a3⟩
        · right
          exact ⟨h1, by omega, a2, a3⟩
def nRowsL (bs : Nat → Nat) (n m : Nat) : List (List Nat) := (cmb m (n - 1) 1).filter (nHalL bs n)
def nFewF (bs : Nat → Nat) (n : Nat) : Nat → Nat → Nat
  | 0, m => m
  | f + 1, m => match nRowsL bs n m with
    | [] => nFewF bs n f (m + 1)
    | _ :: _ => m
def nFew (bs : Nat → Nat) (n : Nat) : Nat := nFewF bs n 4 0
theorem nFewF_spec {bs : Nat → Nat} {n : Nat} : ∀ (f m : Nat), m ≤ nFewF bs n f m ∧ nFewF bs n f m ≤ m + f ∧ (∀ j, m ≤ j → j < nFewF bs n f m → nRowsL bs n j = []) ∧ (nFewF bs n f m < m + f → nRowsL bs n (nFewF bs n f m) ≠ [])
  | 0, m => ⟨Nat.le_refl m, Nat.le_refl m, fun j h1 h2 => absurd h2 (Nat.not_lt.mpr h1), fun h => absurd h (Nat.lt_irrefl m)⟩
  | f + 1, m => by
    unfold nFewF
    cases h : nRowsL bs n m with
    | nil =>
      obtain ⟨a1, a2, a3, a4⟩ := nFewF_spec (bs := bs) (n := n) f (m + 1)
      refine ⟨by show m ≤ nFewF bs n f (m + 1); omega, by show nFewF bs n f (m + 1) ≤ _; omega, fun j h1 h2 => ?_, fun h1 => a4 (by have : nFewF bs n f (m + 1) < m + (f + 1) := h1; omega)⟩
      by_cases hj : j = m
      · rw [hj]; exact h
      · exact a3 j (by omega) h2
    | cons a t => exact ⟨Nat.le_refl m, Nat.le_add_right _ _, fun j h1 h2 => absurd h2 (Nat.not_lt.mpr h1), fun _ h2 => by have h3 : nRowsL bs n m = [] := h2; rw [h] at h3; cases h3⟩
theorem nFew_le (bs : Nat → Nat) (n : Nat) : nFew bs n ≤ 4 := by
  have := (nFewF_spec (bs := bs) (n := n) 4 0).2.1
  unfold nFew
  omega
theorem nFew_before {bs : Nat → Nat} {n m : Nat} (h : m < nFew bs n) : nRowsL bs n m = [] := (nFewF_spec (bs := bs) (n := n) 4 0).2.2.1 m (Nat.zero_le m) h
theorem nFew_rows {bs : Nat → Nat} {n : Nat} (hn : 1 ≤ n) (hs : ∀ k, k < n → bs k < 4) : nRowsL bs n (nFew bs n) ≠ [] := by
  obtain ⟨cs, h1, h2, h3⟩ := nk_four hs
  have hmem : cs ∈ nRowsL bs n cs.length := List.mem_filter.mpr ⟨cmb_mem.mpr ⟨rfl, by rw [show 1 + (n - 1) = n by omega]; exact h1⟩, h3⟩
  have hne : nRowsL bs n cs.length ≠ [] := fun h => by rw [h] at hmem; exact absurd hmem List.not_mem_nil
  obtain ⟨-, a2, a3, a4⟩ := nFewF_spec (bs := bs) (n := n) 4 0
  by_cases hf : nFewF bs n 4 0 < 0 + 4
  · exact a4 hf
  · have hle : ¬ cs.length < nFewF bs n 4 0 := fun q => hne (a3 cs.length (Nat.zero_le _) q)
    have : nFew bs n = cs.length := by
      unfold nFew
      omega
    rw [this]
    exact hne
theorem nFew_lt {bs : Nat → Nat} {n : Nat} (hn : 1 ≤ n) (hs : ∀ k, k < n → bs k < 4) : nFew bs n < n := by
  have h := nFew_rows hn hs
  apply Classical.byContradiction
  intro q
  apply h
  unfold nRowsL
  rw [cmb_short (by omega)]
  rfl
/-! what the owner of the last part has: the ends, the last one first -/
def rO (bs : Nat → Nat) (s : Nat) : List Nat → Nat
  | [] => 0
  | [e] => cB bs s e
  | e :: e' :: r => rO bs s r + (cB bs s e - cB bs s e')
def nDesc : List Nat → Prop
  | [] => True
  | [e] => 1 ≤ e
  | e :: e' :: r => e' < e ∧ nDesc (e' :: r)
theorem nDesc_tail : ∀ {e : Nat} {r : List Nat}, nDesc (e :: r) → nDesc r
  | _, [], _ => trivial
  | _, _ :: _, h => h.2
theorem nDesc_lt : ∀ {r : List Nat} {e x : Nat}, nDesc (e :: r) → x ∈ r → x < e
  | [], _, _, _, h => absurd h List.not_mem_nil
  | a :: r, e, x, h, hx => by
    rcases List.mem_cons.mp hx with rfl | hx
    · exact h.1
    · exact Nat.lt_trans (nDesc_lt h.2 hx) h.1
/-- the cuts of a row that is told backwards; j is not before the last one -/
theorem nCnt_rO (bs : Nat → Nat) (s : Nat) : ∀ (r : List Nat) (j : Nat), nDesc r → (∀ x ∈ r, x ≤ j) →
    nCnt bs (fun k => r.elem k) s (decide (r.length % 2 = 1)) j = rO bs s (j :: r) ∧ nCnt bs (fun k => r.elem k) s (!(decide (r.length % 2 = 1))) j = rO bs s r
  | [], j, _, _ => by
    have hp : ∀ k, nPar (fun k => ([] : List Nat).elem k) k = false := fun k => xs_zero (fun _ _ => rfl)
    constructor
    · unfold nCnt
      show _ = cB bs s j
      unfold cB
      exact cntP_congr (fun k _ => by rw [hp k]; simp)
    · show nCnt bs _ s true j = 0
      unfold nCnt
      rw [← cntP_false (n := j)]
      exact cntP_congr (fun k _ => by rw [hp k]; simp)
  | e :: r, j, hd, hj => by
    have hej : e ≤ j := hj e List.mem_cons_self
    obtain ⟨i1, i2⟩ := nCnt_rO bs s r e (nDesc_tail hd) (fun x hx => Nat.le_of_lt (nDesc_lt hd hx))
    have he1 : 1 ≤ e := by
      cases r with
      | nil => exact hd
      | cons a r => have := hd.1; omega
    -- before e the cut at e does not count
    have hp1 : ∀ k, k < e → nPar (fun k => (e :: r).elem k) k = nPar (fun k => r.elem k) k := fun k hk => nPar_congr (n := e) hk (fun p _ hp => by
      have h1 : (p == e) = false := by simp; omega
      show (e :: r).elem p = r.elem p
      rw [List.elem_cons, h1])
    -- from e on the owner is the last one
    have hp2 : ∀ k, e ≤ k → nPar (fun k => (e :: r).elem k) k = decide ((e :: r).length % 2 = 1) := by
      have hz : ∀ (q : List Nat) (k : Nat), nDesc q → (∀ x ∈ q, x ≤ k) → nPar (fun k => q.elem k) k = decide (q.length % 2 = 1) := by
        intro q
        induction q with
        | nil => intro k _ _; exact xs_zero (fun _ _ => rfl)
        | cons a q ih =>
          intro k hq hk
          have ha1 : 1 ≤ a := by
            cases q with
            | nil => exact hq
            | cons b q => have := hq.1; omega
          have hak := hk a List.mem_cons_self
          have ihk := ih k (nDesc_tail hq) (fun x hx => hk x (List.mem_cons_of_mem _ hx))
          have hna : a ∉ q := fun h => absurd (nDesc_lt hq h) (Nat.lt_irrefl a)
          have key : nPar (fun k => (a :: q).elem k) k = xor (nPar (fun k => q.elem k) k) (xs (fun j => decide (j + 1 = a)) k) := by
            unfold nPar
            rw [← xs_xor]
            refine xs_congr (fun j _ => ?_)
            show (a :: q).elem (j + 1) = _
            rw [List.elem_cons]
            by_cases h : j + 1 = a
            · have h2 : q.elem (j + 1) = false := by
                cases h3 : q.elem (j + 1) with
                | false => rfl
                | true => exact absurd (by rw [← h]; exact List.elem_iff.mp h3) hna
              rw [h2, decide_eq_true h, h]
              simp
              exact hna
            · have h1 : (j + 1 == a) = false := by simp; exact h
              rw [h1, decide_eq_false h]
              simp
          have hone : xs (fun j => decide (j + 1 = a)) k = true := by
            have : ∀ m, xs (fun j => decide (j + 1 = a)) m = decide (a ≤ m) := by
              intro m
              induction m with
              | zero => rw [decide_eq_false (by omega)]; rfl
              | succ m ihm =>
                unfold xs
                rw [ihm]
                by_cases h1 : a ≤ m
                · rw [decide_eq_true h1, decide_eq_false (show ¬ m + 1 = a by omega), decide_eq_true (show a ≤ m + 1 by omega)]; rfl
                · by_cases h2 : m + 1 = a
                  · rw [decide_eq_false h1, decide_eq_true h2, decide_eq_true (show a ≤ m + 1 by omega)]; rfl
                  · rw [decide_eq_false h1, decide_eq_false h2, decide_eq_false (show ¬ a ≤ m + 1 by omega)]; rfl
            rw [this k, decide_eq_true hak]
          rw [key, ihk, hone, List.length_cons]
          by_cases h : q.length % 2 = 1
          · rw [decide_eq_true h, decide_eq_false (by omega)]; rfl
          · rw [decide_eq_false h, decide_eq_true (by omega)]; rfl
      intro k hk
      exact hz (e :: r) k hd (fun x hx => by
        rcases List.mem_cons.mp hx with rfl | hx
        · exact hk
        · exact Nat.le_trans (Nat.le_of_lt (nDesc_lt hd hx)) hk)
    have hsplit : ∀ b, nCnt bs (fun k => (e :: r).elem k) s b j = nCnt bs (fun k => r.elem k) s b e + (if b = decide ((e :: r).length % 2 = 1) then cB bs s j - cB bs s e else 0) := by
      intro b
      have : ∀ d, nCnt bs (fun k => (e :: r).elem k) s b (e + d) = nCnt bs (fun k => r.elem k) s b e + (if b = decide ((e :: r).length % 2 = 1) then cB bs s (e + d) - cB bs s e else 0) := by
        intro d
        induction d with
        | zero =>
          rw [Nat.add_zero, Nat.sub_self, show (if b = decide ((e :: r).length % 2 = 1) then 0 else 0) = 0 by split <;> rfl]
          unfold nCnt
          exact cntP_congr (fun k hk => by rw [hp1 k hk])
        | succ d ih =>
          have hm : cB bs s e ≤ cB bs s (e + d) := cntP_mono _ (by omega)
          rw [show e + (d + 1) = (e + d) + 1 by omega]
          have e1 : nCnt bs (fun k => (e :: r).elem k) s b (e + d + 1) = nCnt bs (fun k => (e :: r).elem k) s b (e + d) + cond (decide (bs (e + d) = s) && (decide ((e :: r).length % 2 = 1) == b)) 1 0 := by
            unfold nCnt
            rw [cntP_succ, hp2 (e + d) (by omega)]
          have e2 : cB bs s (e + d + 1) = cB bs s (e + d) + cond (decide (bs (e + d) = s)) 1 0 := by
            unfold cB
            rw [cntP_succ]
          rw [e1, ih, e2]
          by_cases hb : b = decide ((e :: r).length % 2 = 1)
          · rw [if_pos hb, if_pos hb, ← hb]
            cases decide (bs (e + d) = s) <;> simp <;> omega
          · rw [if_neg hb, if_neg hb]
            have : (decide ((e :: r).length % 2 = 1) == b) = false := by
              cases h1 : decide ((e :: r).length % 2 = 1) <;> cases h2 : b <;> simp_all
            rw [this]
            simp
      have h1 := this (j - e)
      rw [show e + (j - e) = j by omega] at h1
      exact h1
    have hpar : decide ((e :: r).length % 2 = 1) = !(decide (r.length % 2 = 1)) := by
      rw [List.length_cons]
      by_cases h : r.length % 2 = 1
      · rw [decide_eq_true h, decide_eq_false (by omega)]; rfl
      · rw [decide_eq_false h, decide_eq_true (by omega)]; rfl
    constructor
    · rw [hsplit, if_pos rfl, hpar, i2]
      rfl
    · rw [hsplit, if_neg (by cases decide ((e :: r).length % 2 = 1) <;> simp), hpar, Bool.not_not, i1]
      rfl
/-- no more than half, rounded up, of any sort -/
def nIn (bs : Nat → Nat) (n : Nat) (d : Nat → Nat) : Prop := ∀ s, s < 4 → d s ≤ (cB bs s n + 1) / 2
theorem nCnt_sum (bs : Nat → Nat) (c : Nat → Bool) (s : Nat) : ∀ n : Nat, nCnt bs c s false n + nCnt bs c s true n = cB bs s n
  | 0 => rfl
  | n + 1 => by
    have ih := nCnt_sum bs c s n
    unfold nCnt cB at ih ⊢
    rw [cntP_succ, cntP_succ, cntP_succ]
    generalize cntP (fun k => decide (bs k = s) && (nPar c k == false)) n = x at ih ⊢
    generalize cntP (fun k => decide (bs k = s) && (nPar c k == true)) n = y at ih ⊢
    generalize cntP (fun k => decide (bs k = s)) n = z at ih ⊢
    cases decide (bs n = s) <;> cases nPar c n <;> simp <;> omega
theorem nHal_in {bs : Nat → Nat} {n : Nat} {r : List Nat} (hd : nDesc r) (hn : ∀ x ∈ r, x ≤ n) : nHal bs n (fun k => r.elem k) = true ↔ (nIn bs n (fun s => rO bs s (n :: r)) ∧ nIn bs n (fun s => rO bs s r)) := by
  rw [nHal_iff]
  constructor
  · intro h
    refine ⟨fun s hs => ?_, fun s hs => ?_⟩
    · have h1 := h s hs
      have h2 := nCnt_sum bs (fun k => r.elem k) s n
      have h3 := nCnt_rO bs s r n hd hn
      show rO bs s (n :: r) ≤ _
      rw [← h3.1]
      cases hb : decide (r.length % 2 = 1) <;> omega
    · have h1 := h s hs
      have h2 := nCnt_sum bs (fun k => r.elem k) s n
      have h3 := nCnt_rO bs s r n hd hn
      show rO bs s r ≤ _
      rw [← h3.2]
      cases hb : decide (r.length % 2 = 1) <;> simp only [Bool.not_true, Bool.not_false] <;> omega
  · rintro ⟨h1, h2⟩ s hs
    have a1 := h1 s hs
    have a2 := h2 s hs
    have h3 := nCnt_rO bs s r n hd hn
    have h4 := nCnt_sum bs (fun k => r.elem k) s n
    have a1 : rO bs s (n :: r) ≤ (cB bs s n + 1) / 2 := a1
    have a2 : rO bs s r ≤ (cB bs s n + 1) / 2 := a2
    rw [← h3.1] at a1
    rw [← h3.2] at a2
    cases hb : decide (r.length % 2 = 1) <;> rw [hb] at a1 a2 <;> simp only [Bool.not_true, Bool.not_false] at a2 <;> omega
theorem nHalL_rev {bs : Nat → Nat} {n : Nat} (cs : List Nat) : nHalL bs n cs = nHal bs n (fun k => cs.reverse.elem k) := by
  unfold nHalL
  exact nHal_congr (fun p _ _ => by
    cases h : cs.elem p with
    | true => exact (List.elem_iff.mpr (List.mem_reverse.mpr (List.elem_iff.mp h))).symm
    | false =>
      cases h2 : cs.reverse.elem p with
      | false => rfl
      | true =>
        rw [List.elem_iff.mpr (List.mem_reverse.mp (List.elem_iff.mp h2))] at h
        cases h)
