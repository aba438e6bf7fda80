/-! ===== the class Necklace: its search ===== -/
theorem cB_0 (bs : Nat → Nat) (s : Nat) : cB bs s 0 = 0 := rfl
theorem cB_mono (bs : Nat → Nat) (s : Nat) {a b : Nat} (h : a ≤ b) : cB bs s a ≤ cB bs s b := cntP_mono _ h
theorem rO_cons (bs : Nat → Nat) (s c : Nat) : ∀ r : List Nat, rO bs s (c :: r) = rO bs s r.tail + (cB bs s c - cB bs s (r.headD 0))
  | [] => by show cB bs s c = 0 + (cB bs s c - 0); omega
  | _ :: _ => rfl
theorem rO_mono (bs : Nat → Nat) (s : Nat) {c c' : Nat} (r : List Nat) (h : c ≤ c') : rO bs s (c :: r) ≤ rO bs s (c' :: r) := by
  rw [rO_cons, rO_cons]
  have := cB_mono bs s h
  omega
theorem rO_up (bs : Nat → Nat) (s : Nat) (q : List Nat) : ∀ (l : List Nat) (y : Nat), rO bs s q ≤ rO bs s (l ++ q) ∨ rO bs s q ≤ rO bs s (y :: (l ++ q))
  | [], _ => Or.inl (Nat.le_refl _)
  | [a], y => Or.inr (by show _ ≤ rO bs s q + _; omega)
  | a :: b :: l, y => by
    rcases rO_up bs s q l b with h | h
    · left
      show _ ≤ rO bs s (l ++ q) + _
      omega
    · right
      show _ ≤ rO bs s (b :: (l ++ q)) + _
      omega
theorem rO_le (bs : Nat → Nat) (s n : Nat) : ∀ (r : List Nat), nDesc r → (∀ x ∈ r, x ≤ n) → rO bs s r ≤ cB bs s (r.headD 0)
  | [], _, _ => Nat.zero_le _
  | [e], _, _ => Nat.le_refl _
  | e :: e' :: r, hd, hn => by
    have h1 := rO_le bs s n r (nDesc_tail hd.2) (fun x hx => hn x (List.mem_cons_of_mem _ (List.mem_cons_of_mem _ hx)))
    have h2 : cB bs s e' ≤ cB bs s e := cB_mono bs s (Nat.le_of_lt hd.1)
    have h3 : cB bs s (r.headD 0) ≤ cB bs s e' := by
      cases r with
      | nil => exact Nat.zero_le _
      | cons a r => exact cB_mono bs s (Nat.le_of_lt (nDesc_lt hd.2 List.mem_cons_self))
    show rO bs s r + (cB bs s e - cB bs s e') ≤ cB bs s e
    omega
theorem rO_24 (bs : Nat → Nat) {n : Nat} (hn : n ≤ 24) (s c : Nat) (r : List Nat) (hd : nDesc r) (hr : ∀ x ∈ r, x ≤ c) (hc : c ≤ n) : rO bs s (c :: r) ≤ 24 := by
  have h0 : rO bs s (c :: r) ≤ cB bs s c := by
    cases r with
    | nil => exact Nat.le_refl _
    | cons e r =>
      have h1 := rO_le bs s n r (nDesc_tail hd) (fun x hx => Nat.le_trans (hr x (List.mem_cons_of_mem _ hx)) hc)
      have h2 : cB bs s e ≤ cB bs s c := cB_mono bs s (hr e List.mem_cons_self)
      have h3 : cB bs s (r.headD 0) ≤ cB bs s e := by
        cases r with
        | nil => exact Nat.zero_le _
        | cons a r => exact cB_mono bs s (Nat.le_of_lt (nDesc_lt hd List.mem_cons_self))
      show rO bs s r + (cB bs s c - cB bs s e) ≤ cB bs s c
      omega
  have := cB_le bs s c
  omega
abbrev pkO (bs : Nat → Nat) (r : List Nat) : Nat := pk4 (rO bs 0 r) (rO bs 1 r) (rO bs 2 r) (rO bs 3 r)
theorem c_takes (l : Launch) (bs : Nat → Nat) (n : Nat) (ah en ow fr : Nat → Int32) (bd se fw rc : Int32) (hB : NB bs n ah bd) (rp : List Nat) (hd : nDesc rp) (c : Nat) (hr : ∀ x ∈ rp, x ≤ c) (hc : c ≤ n) (hp : rp.length ≤ 5) (hen : en (rp.length + 1) = nI (rp.headD 0)) (how : ow rp.length = nI (pkO bs rp.tail)) (x y : Int32) (hx : x = nI rp.length) (hy : y = nI c) :
    Ev l zX1_takesUpTo [.inr (1, 0), vI x, vI y] (nkH ah en ow fr bd se fw rc) (fun r h' => (∃ b : Bool, r = some (vI (b2i b)) ∧ (b = true ↔ nIn bs n (fun s => rO bs s (c :: rp)))) ∧ h' = nkH ah (upd en (rp.length + 2) (nI c)) (upd ow (rp.length + 2) (nI (pkO bs (c :: rp)))) fr bd se fw rc) := by
  subst hx; subst hy
  obtain ⟨hn, hs, rfl, hah⟩ := hB
  have hhead : rp.headD 0 ≤ c := by
    cases rp with
    | nil => exact Nat.zero_le _
    | cons e r => exact hr e List.mem_cons_self
  have e2 : nI rp.length + 2 = nI (rp.length + 2) := nI_add rp.length 2
  have e1 : nI rp.length + 1 = nI (rp.length + 1) := nI_1 rp.length
  have hval : ow rp.length + ah c - ah (rp.headD 0) = nI (pkO bs (c :: rp)) := by
    have m := fun s => cB_mono bs s hhead
    rw [how, hah c hc, hah _ (by omega), nI_add, pk_sub (by unfold pkc pk4; have := m 0; have := m 1; have := m 2; have := m 3; omega)]
    congr 1
    have q := fun s => rO_cons bs s c rp
    show _ = pk4 (rO bs 0 (c :: rp)) (rO bs 1 (c :: rp)) (rO bs 2 (c :: rp)) (rO bs 3 (c :: rp))
    rw [q 0, q 1, q 2, q 3]
    unfold pkO pkc pk4
    have := m 0; have := m 1; have := m 2; have := m 3
    omega
  refine ev_run okX1_takesUpTo (by decide +kernel) (Nat.le_of_ble_eq_true rfl) 100 ?_
  refine And.intro (by show vp_in (nI rp.length + 2) 26; rw [e2]; exact vp_in_nI (by omega) (by omega)) ?_
  refine And.intro (vp_in_nI (by omega) (by omega)) ?_
  refine And.intro (vp_in_nI (by omega) (by omega)) ?_
  refine And.intro (by show vp_in (nI rp.length + 1) 26; rw [e1]; exact vp_in_nI (by omega) (by omega)) ?_
  have ere : upd en (nI rp.length + 2).toNatClampNeg (nI c) (nI rp.length + 1).toNatClampNeg = nI (rp.headD 0) := by
    rw [e1, e2, nI_clamp (by omega), nI_clamp (by omega), pk_un (by omega), hen]
  refine And.intro (by show vp_in (upd en (nI rp.length + 2).toNatClampNeg (nI c) (nI rp.length + 1).toNatClampNeg) 25; rw [ere]; exact vp_in_nI (by omega) (by omega)) ?_
  refine And.intro (by show vp_in (nI rp.length + 2) 26; rw [e2]; exact vp_in_nI (by omega) (by omega)) ?_
  refine And.intro (by show vp_in (nI rp.length + 2) 26; rw [e2]; exact vp_in_nI (by omega) (by omega)) ?_
  have hstore : ow (nI rp.length).toNatClampNeg + ah (nI c).toNatClampNeg - ah (upd en (nI rp.length + 2).toNatClampNeg (nI c) (nI rp.length + 1).toNatClampNeg).toNatClampNeg = nI (pkO bs (c :: rp)) := by
    rw [ere, nI_clamp (by omega), nI_clamp (by omega), nI_clamp (by omega)]
    exact hval
  refine ⟨[1, 2, 3, 4, 5], _, c_within l bs n ah (upd en (nI rp.length + 2).toNatClampNeg (nI c)) (upd ow (nI rp.length + 2).toNatClampNeg (ow (nI rp.length).toNatClampNeg + ah (nI c).toNatClampNeg - ah (upd en (nI rp.length + 2).toNatClampNeg (nI c) (nI rp.length + 1).toNatClampNeg).toNatClampNeg)) fr (nI n) se fw rc ⟨hn, hs, rfl, hah⟩ (fun s => rO bs s (c :: rp)) (fun s _ => rO_24 bs hn s c rp hd hr hc) _ (by
    show upd ow (nI rp.length + 2).toNatClampNeg _ (nI rp.length + 2).toNatClampNeg = _
    rw [pk_us]
    exact hstore), fun r hc' hP _ => ?_⟩
  obtain ⟨⟨b, rfl, hb⟩, rfl⟩ := hP
  refine And.intro (b2i_01 b) (And.intro ⟨⟨b, rfl, hb⟩, ?_⟩ rfl)
  show nkH ah (upd en (nI rp.length + 2).toNatClampNeg (nI c)) (upd ow (nI rp.length + 2).toNatClampNeg (ow (nI rp.length).toNatClampNeg + ah (nI c).toNatClampNeg - ah (upd en (nI rp.length + 2).toNatClampNeg (nI c) (nI rp.length + 1).toNatClampNeg).toNatClampNeg)) fr (nI n) se fw rc = _
  rw [hstore, e2, nI_clamp (by omega)]
theorem c_keepRow (l : Launch) (ah en ow fr : Nat → Int32) (bd se fw rc : Int32) (m : Nat) (hm : m ≤ 24) (x : Int32) (hx : x = nI m) : Ev l zX1_keepRow [.inr (1, 0), vI x] (nkH ah en ow fr bd se fw rc) (fun r h' => r = none ∧ ∃ fr' : Nat → Int32, (rc = 0 → ∀ i, i < m → fr' i = en (i + 2)) ∧ (¬ rc = 0 → fr' = fr) ∧ h' = nkH ah en ow fr' bd se fw (rc + 1)) := by
  subst hx
  refine ev_run okX1_keepRow (by decide +kernel) (Nat.le_of_ble_eq_true rfl) 100 ?_
  refine And.intro (fun h1 => ?_) (fun h1 => ?_)
  · refine And.intro ⟨rfl, fr, fun q => absurd q h1, fun _ => rfl, rfl⟩ rfl
  · refine And.intro (by decide) (And.intro (by decide) (And.intro (nI_pos (by omega)) (And.intro ?_ (And.intro ?_ ?_))))
    · rw [nI_clamp (by omega)]
      show 2 + m ≤ 26
      omega
    · rw [nI_clamp (by omega)]
      show 0 + m ≤ 24
      omega
    · refine And.intro ⟨rfl, va_cpy en fr 2 0 (nI m).toNatClampNeg, fun _ i hi => ?_, fun q => absurd h1 q, rfl⟩ rfl
      rw [nI_clamp (by omega), pk_cpy_in (by omega) (by omega)]
      congr 1
      omega
/-- the ends and shares of the parts up to now, the last one first -/
def DI (bs : Nat → Nat) (en ow : Nat → Int32) : List Nat → Prop
  | [] => en 1 = 0 ∧ ow 0 = 0 ∧ ow 1 = 0
  | e :: r => en (r.length + 2) = nI e ∧ ow (r.length + 2) = nI (pkO bs (e :: r)) ∧ DI bs en ow r
theorem DI_head {bs : Nat → Nat} {en ow : Nat → Int32} : ∀ {rp : List Nat}, DI bs en ow rp → en (rp.length + 1) = nI (rp.headD 0)
  | [], h => h.1
  | _ :: _, h => h.1
theorem DI_own {bs : Nat → Nat} {en ow : Nat → Int32} : ∀ {rp : List Nat}, DI bs en ow rp → ow rp.length = nI (pkO bs rp.tail)
  | [], h => h.2.1
  | [_], h => h.2.2.2.2
  | _ :: _ :: _, h => h.2.2.2.1
theorem DI_upd {bs : Nat → Nat} {en ow : Nat → Int32} {j : Nat} {x y : Int32} : ∀ {rp : List Nat}, DI bs en ow rp → rp.length + 2 ≤ j → DI bs (upd en j x) (upd ow j y) rp
  | [], h, hj => ⟨by rw [pk_un (by have : 0 + 2 ≤ j := hj; omega)]; exact h.1, by rw [pk_un (by have : 0 + 2 ≤ j := hj; omega)]; exact h.2.1, by rw [pk_un (by have : 0 + 2 ≤ j := hj; omega)]; exact h.2.2⟩
  | e :: r, h, hj => by
    have hj : r.length + 1 + 2 ≤ j := hj
    exact ⟨by rw [pk_un (by omega)]; exact h.1, by rw [pk_un (by omega)]; exact h.2.1, DI_upd h.2.2 (by omega)⟩
theorem DI_updE {bs : Nat → Nat} {en ow : Nat → Int32} {j : Nat} {x : Int32} : ∀ {rp : List Nat}, DI bs en ow rp → rp.length + 2 ≤ j → DI bs (upd en j x) ow rp
  | [], h, hj => ⟨by rw [pk_un (by have : 0 + 2 ≤ j := hj; omega)]; exact h.1, h.2⟩
  | e :: r, h, hj => by
    have hj : r.length + 1 + 2 ≤ j := hj
    exact ⟨by rw [pk_un (by omega)]; exact h.1, h.2.1, DI_updE h.2.2 (by omega)⟩
theorem DI_ends {bs : Nat → Nat} {en ow : Nat → Int32} : ∀ {rp : List Nat}, DI bs en ow rp → ∀ i, i < rp.length → en (i + 2) = nI (rp.reverse.getD i 0)
  | [], _, i, hi => absurd hi (Nat.not_lt_zero _)
  | e :: r, h, i, hi => by
    rw [List.reverse_cons]
    by_cases hir : i = r.length
    · subst hir
      rw [h.1]
      simp [List.getD]
    · have hi2 : i < r.length := by
        have : i < r.length + 1 := hi
        omega
      rw [DI_ends h.2.2 i hi2]
      simp [List.getD, List.getElem?_append_left, hi2]
/-- the rows that go on from these cuts -/
def nL (bs : Nat → Nat) (n : Nat) (rp : List Nat) (m d lo : Nat) : List (List Nat) := ((cmb m d lo).map (fun t => rp.reverse ++ t)).filter (nHalL bs n)
theorem nL_succ (bs : Nat → Nat) (n : Nat) (rp : List Nat) (m d lo : Nat) : nL bs n rp (m + 1) (d + 1) lo = nL bs n (lo :: rp) m d (lo + 1) ++ nL bs n rp (m + 1) d (lo + 1) := by
  unfold nL
  rw [cmb, List.map_append, List.filter_append, List.map_map]
  congr 2
  apply List.map_congr_left
  intro t _
  show rp.reverse ++ lo :: t = (lo :: rp).reverse ++ t
  rw [List.reverse_cons, List.append_assoc]
  rfl
theorem nL_short (bs : Nat → Nat) (n : Nat) (rp : List Nat) {m d lo : Nat} (h : d < m) : nL bs n rp m d lo = [] := by
  unfold nL
  rw [cmb_short h]
  rfl
theorem nDesc_app : ∀ {t : List Nat} {n lo : Nat} {q : List Nat}, nAsc n lo t → nDesc q → (∀ x ∈ q, x < lo) → 1 ≤ lo → nDesc (t.reverse ++ q)
  | [], _, _, _, _, hq, _, _ => hq
  | c :: t, n, lo, q, ht, hq, hx, hlo => by
    rw [List.reverse_cons, List.append_assoc]
    refine nDesc_app (lo := c + 1) ht.2.2 (q := [c] ++ q) ?_ (fun x hxm => ?_) (by omega)
    · cases q with
      | nil => exact Nat.le_trans hlo ht.1
      | cons a q => exact ⟨Nat.lt_of_lt_of_le (hx a List.mem_cons_self) ht.1, hq⟩
    · rcases List.mem_cons.mp hxm with rfl | h
      · exact Nat.lt_succ_self _
      · have := hx x h
        have := ht.1
        omega
theorem nAsc_lt : ∀ {t : List Nat} {n lo x : Nat}, nAsc n lo t → x ∈ t → lo ≤ x ∧ x < n
  | [], _, _, _, _, h => absurd h List.not_mem_nil
  | c :: t, n, lo, x, h, hx => by
    rcases List.mem_cons.mp hx with rfl | hx
    · exact ⟨h.1, h.2.1⟩
    · have := nAsc_lt h.2.2 hx
      have := h.1
      omega
/-- too much already: no row goes on from there -/
theorem nL_prune {bs : Nat → Nat} {n : Nat} {rp : List Nat} (hd : nDesc rp) {m d lo : Nat} (hlo : 1 ≤ lo) (hx : ∀ x ∈ rp, x < lo) (hn : lo + d = n) (h : ¬ nIn bs n (fun s => rO bs s (lo :: rp))) : nL bs n rp (m + 1) d lo = [] := by
  unfold nL
  rw [List.filter_eq_nil_iff]
  intro cs hcs hh
  obtain ⟨t, ht, rfl⟩ := List.mem_map.mp hcs
  rw [cmb_mem] at ht
  cases t with
  | nil => have := ht.1; cases this
  | cons c t =>
    apply h
    intro s hs
    have ha := ht.2
    rw [hn] at ha
    rw [nHalL_rev, List.reverse_append, List.reverse_reverse] at hh
    have hdes : nDesc ((c :: t).reverse ++ rp) := nDesc_app ha hd hx hlo
    have hle : ∀ x ∈ (c :: t).reverse ++ rp, x ≤ n := fun x hxm => by
      rcases List.mem_append.mp hxm with q | q
      · exact Nat.le_of_lt (nAsc_lt ha (List.mem_reverse.mp q)).2
      · have := hx x q
        omega
    rw [nHal_in hdes hle] at hh
    have e : (c :: t).reverse ++ rp = t.reverse ++ (c :: rp) := by
      rw [List.reverse_cons, List.append_assoc]
      rfl
    rw [e] at hh
    have h1 := rO_mono bs s rp ha.1
    have a1 := hh.1 s hs
    have a2 := hh.2 s hs
    have a1 : rO bs s (n :: (t.reverse ++ c :: rp)) ≤ (cB bs s n + 1) / 2 := a1
    have a2 : rO bs s (t.reverse ++ c :: rp) ≤ (cB bs s n + 1) / 2 := a2
    show rO bs s (lo :: rp) ≤ _
    rcases rO_up bs s (c :: rp) t.reverse n with q | q <;> omega
theorem nL_leaf {bs : Nat → Nat} {n : Nat} {rp : List Nat} (hd : nDesc rp) (hx : ∀ x ∈ rp, x ≤ n) (hin : nIn bs n (fun s => rO bs s rp)) (d lo : Nat) (b : Bool) (hb : b = true ↔ nIn bs n (fun s => rO bs s (n :: rp))) : nL bs n rp 0 d lo = cond b [rp.reverse] [] := by
  unfold nL
  have e : nHalL bs n rp.reverse = b := by
    rw [nHalL_rev, List.reverse_reverse, Bool.eq_iff_iff, nHal_in hd hx, hb]
    exact ⟨fun q => q.1, fun q => ⟨q, hin⟩⟩
  rw [show cmb 0 d lo = [[]] by cases d <;> rfl]
  show List.filter _ [rp.reverse ++ []] = _
  rw [List.append_nil, List.filter_cons, e]
  cases b <;> rfl
def cost : Nat → Nat → Nat
  | 0, _ => 1
  | _ + 1, 0 => 1
  | m + 1, d + 1 => 1 + cost m d + cost (m + 1) d
theorem cost_pos : ∀ m d : Nat, 1 ≤ cost m d
  | 0, d => by cases d <;> exact Nat.le_refl 1
  | _ + 1, 0 => Nat.le_refl 1
  | m + 1, d + 1 => by unfold cost; omega
theorem cost_le : ∀ m : Nat, m < 5 → ∀ d : Nat, d < 24 → cost m d ≤ 900000 := by decide +kernel
